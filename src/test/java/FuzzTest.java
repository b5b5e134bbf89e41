import java.lang.reflect.Method;
import java.nio.charset.StandardCharsets;
import java.util.ArrayList;
import java.util.Arrays;
import java.util.Comparator;
import java.util.HashMap;
import java.util.List;
import java.util.Map;
import java.util.Random;

/** Runs of calls, the same on the class and on the naive model: every answer must be the same. */
public final class FuzzTest {
    private static final int RUNS = 700;
    private static final int[] ODD = {-1, -2, 6, 7, 13, 21, 31, 37, 61, 99, 100, 1000, 1001, Integer.MAX_VALUE,
        Integer.MIN_VALUE};
    private static final String[] FACTS = {"which", "step", "column", "row", "tilt", "night"};
    /** By the call: what its numbers are at the most, when they can be. */
    private static final Map<String, int[]> MOST = new HashMap<>();

    static {
        for (String row : new String[] {"end 40", "fault 1", "house 4 5", "spot 35 2", "walk 4", "hedge 35", "cut 35",
            "will 4 60 2", "back 4", "meet 4 4", "plan 4 10", "fence 4 4 20", "post 20 1", "way 35", "chase 4 3 1",
            "haunt 60", "stray 4 60", "suits 4", "gather 60", "swap 2", "bell 20 1", "homely 60", "quarrels 60",
            "closest 2", "law 12", "odds 4 1", "lies 10", "seen 12 35", "untell 9", "later 5", "fits 30", "sure 1 30",
            "ask 1 30", "image 2", "restore 2", "about 16"}) {
            String[] parts = row.split(" ");
            int[] most = new int[parts.length - 1];
            for (int i = 0; i < most.length; i++) {
                most[i] = Integer.parseInt(parts[i + 1]);
            }
            MOST.put(parts[0], most);
        }
    }

    private static final String SOUP = "abz0159;()<>=+-*/% \n!A~{`";

    private final Random random;
    private final List<Method> methods = new ArrayList<>();
    private NightHouses x;
    private Model model;
    private final StringBuilder told = new StringBuilder();

    private FuzzTest(long seed) {
        random = new Random(seed);
        for (Method method : NightHouses.class.getDeclaredMethods()) {
            if (java.lang.reflect.Modifier.isPublic(method.getModifiers())) {
                methods.add(method);
            }
        }
        methods.sort(Comparator.comparing(Method::getName));
    }

    public static void main(String[] args) throws Exception {
        int runs = args.length > 0 ? Integer.parseInt(args[0]) : RUNS;
        long from = args.length > 1 ? Long.parseLong(args[1]) : 1;
        for (long seed = from; seed < from + runs; seed++) {
            new FuzzTest(seed).run();
        }
        Check.finish();
    }

    private int pick(int below) {
        return random.nextInt(below);
    }

    private void run() throws Exception {
        x = new NightHouses();
        model = new Model();
        told.setLength(0);
        for (int i = 0; i < 5 && model.about(0) == 0; i++) {
            tell();
        }
        int calls = 20 + pick(180);
        for (int i = 0; i < calls; i++) {
            int sort = pick(200);
            if (sort < 1) {
                tell();
            } else if (sort < 30) {
                call("step", pick(2) == 0);
            } else if (sort < 40) {
                call("walk", 1 + pick(4));
            } else if (sort < 44) {
                call("hedge", pick(36));
            } else if (sort < 50) {
                call("seen", pick(13), pick(pick(2) == 0 ? 36 : 4), pick(6) == 0);
            } else if (sort < 52) {
                call("redo");
            } else if (sort < 70 && model.about(0) > 1) {
                askOfTwo();
            } else {
                any();
            }
        }
    }

    private void any() throws Exception {
        Method method = methods.get(pick(methods.size()));
        String name = method.getName();
        if (name.equals("land") && pick(8) != 0) {
            return;
        }
        Class<?>[] types = method.getParameterTypes();
        Object[] with = new Object[types.length];
        int[] most = MOST.getOrDefault(name, new int[0]);
        for (int i = 0; i < types.length; i++) {
            with[i] = types[i] == boolean.class ? (Object) (pick(2) == 0) : (Object) number(i < most.length ? most[i] : 3);
        }
        call(name, with);
        if (name.equals("plan") || name.equals("fence")) {
            for (int i = 0; i <= model.about(14); i++) {
                call("lies", i);
            }
        }
    }

    /** What is asked of two houses that there are is seldom asked by chance alone. */
    private void askOfTwo() throws Exception {
        int house = pick(model.about(0));
        int other = (house + 1 + pick(model.about(0) - 1)) % model.about(0);
        call("meet", house, other);
        call("fence", house, other, pick(21));
        call("lies", 0);
        call("lies", 1);
        call("plan", house, pick(11));
        call("back", other);
        call("chase", other, 1 + pick(3), pick(2));
    }

    private int number(int most) {
        return pick(25) == 0 ? ODD[pick(ODD.length)] : pick(30) == 0 ? most + 1 : pick(most + 1);
    }

    private void call(String name, Object... with) throws Exception {
        Class<?>[] types = new Class<?>[with.length];
        for (int i = 0; i < with.length; i++) {
            types[i] = with[i] instanceof Boolean ? boolean.class : int.class;
        }
        long got = value(NightHouses.class.getMethod(name, types).invoke(x, with));
        long want = value(Model.class.getMethod(name, types).invoke(model, with));
        String call = name + Arrays.toString(with);
        told.append(call).append(" = ").append(want).append('\n');
        if (got != want) {
            System.out.println(told);
        }
        Check.due(call, got, want);
    }

    private static long value(Object answer) {
        return answer instanceof Boolean truth ? truth ? 1 : 0 : (Integer) answer;
    }

    private void tell() throws Exception {
        String text = text();
        if (text.length() > 1600) {
            text = text.substring(0, 1600);
        }
        if (pick(6) == 0) {
            text = spoilt(text);
        }
        told.append("text: ").append(text).append('\n');
        byte[] bytes = text.getBytes(StandardCharsets.ISO_8859_1);
        call("end", 0);
        for (int at = 0; at < bytes.length; at += 20) {
            call("feed", Check.four(bytes, at), Check.four(bytes, at + 4), Check.four(bytes, at + 8),
                    Check.four(bytes, at + 12), Check.four(bytes, at + 16));
        }
        call("end", bytes.length);
        call("land");
        call("fault", 0);
        call("fault", 1);
        for (int what = 0; what < 17; what++) {
            call("about", what);
        }
    }

    private String spoilt(String text) {
        StringBuilder all = new StringBuilder(text);
        for (int i = 0; i <= pick(2) && all.length() > 0; i++) {
            int at = pick(all.length());
            char sign = SOUP.charAt(pick(SOUP.length()));
            switch (pick(4)) {
                case 0 -> all.deleteCharAt(at);
                case 1 -> all.setCharAt(at, sign);
                case 2 -> all.insert(at, sign);
                default -> all.setLength(at);
            }
        }
        return all.toString();
    }

    private String text() {
        int columns = 1 + pick(6);
        int rows = 1 + pick(6);
        StringBuilder all = new StringBuilder();
        if (pick(8) != 0) {
            all.append("land ").append(columns).append(" by ").append(rows).append(";");
        } else {
            columns = 6;
            rows = 6;
        }
        boolean[] hedged = new boolean[36];
        for (int i = pick(Math.min(9, columns * rows)); i > 0; i--) {
            int cell = pick(columns * rows);
            if (!hedged[cell] || pick(20) == 0) {
                all.append("hedge ").append(cell % columns).append(" ").append(cell / columns).append(";");
            }
            hedged[cell] = true;
        }
        int houses = pick(60) == 0 ? 6 : pick(4) == 0 ? pick(3) : 2 + pick(4);
        for (int i = 0; i < houses; i++) {
            int cell = free(hedged, columns * rows);
            all.append(pick(3) == 0 ? "\n" : "").append("house ").append("abcdefghijkl".charAt(pick(30) == 0 ? 0 : i))
                    .append(" at ").append(cell % columns).append(" ").append(cell / columns).append(";");
        }
        if (pick(2) == 0) {
            int cell = free(hedged, columns * rows);
            all.append("cat ").append(cell % columns).append(" ").append(cell / columns).append(";");
        }
        if (pick(12) != 0) {
            all.append("goes ").append((pick(3) == 0 ? formula(0) : pick(9) == 0 ? deep() : lively())).append(";");
        }
        if (pick(2) == 0) {
            all.append("calls ").append(pick(12)).append(";");
        }
        if (pick(3) != 0) {
            all.append("gale ").append(pick(102)).append(";");
        }
        if (pick(2) == 0) {
            all.append("draw ").append(pick(1001)).append(";");
        }
        return all.toString();
    }

    private int free(boolean[] hedged, int cells) {
        int cell = pick(cells);
        for (int i = 0; i < 100 && hedged[cell] && pick(40) != 0; i++) {
            cell = pick(cells);
        }
        return cell;
    }

    /** A formula by which houses go about much, so that they meet, stray and come home. */
    private String lively() {
        StringBuilder all = new StringBuilder();
        for (int i = 0; i < 1 + pick(5); i++) {
            all.append(i == 0 ? "" : pick(4) == 0 ? " - " : " + ").append(FACTS[pick(6)]);
            all.append(pick(2) == 0 ? "" : (pick(2) == 0 ? " * " : " / ") + (1 + pick(7)));
        }
        return pick(3) == 0 ? all + " + 1 + (" + formula(3) + ")" : all.toString();
    }

    /** What stands within about as many others as can be. */
    private String deep() {
        StringBuilder ahead = new StringBuilder();
        StringBuilder behind = new StringBuilder();
        for (int i = 5 + pick(4); i > 0; i--) {
            if (pick(2) == 0) {
                ahead.append("not ");
            } else {
                ahead.append("(");
                behind.append(")");
            }
        }
        return ahead + (pick(2) == 0 ? "row" : "step + 1") + behind;
    }

    private String formula(int depth) {
        return several(depth, " or ", 4);
    }

    private String several(int depth, String between, int often) {
        StringBuilder all = new StringBuilder();
        for (int i = 0; i == 0 || pick(often) == 0; i++) {
            all.append(i == 0 ? "" : between).append(between.equals(" or ") ? several(depth, " and ", 4) : one(depth));
        }
        return all.toString();
    }

    private String one(int depth) {
        if (pick(9) == 0) {
            return "not " + one(depth + 1);
        }
        return sum(depth) + (pick(3) == 0 ? " " + "<>=".charAt(pick(3)) + sum(depth) : "");
    }

    private String sum(int depth) {
        StringBuilder all = new StringBuilder(unit(depth));
        for (int i = 0; i < pick(pick(40) == 0 ? 30 : 4); i++) {
            all.append(' ').append("+-*/%".charAt(pick(5))).append(' ').append(unit(depth));
        }
        return all.toString();
    }

    private String unit(int depth) {
        if (pick(7 + depth) == 0) {
            return "(" + formula(depth + 1) + ")";
        }
        return pick(2) == 0 ? FACTS[pick(6)] : Integer.toString(pick(pick(9) == 0 ? 10000 : 9));
    }
}
