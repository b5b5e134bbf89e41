import java.lang.reflect.Method;
import java.nio.charset.StandardCharsets;
import java.util.ArrayList;
import java.util.Arrays;
import java.util.Comparator;
import java.util.List;
import java.util.Random;

/** Runs of calls, the same on the class and on the naive model: every answer must be the same. */
public final class FuzzTest {
    private static final int RUNS = 700;
    private static final int[] ODD = {-1, -2, 6, 7, 13, 21, 31, 37, 61, 99, 100, 1000, 1001, Integer.MAX_VALUE,
        Integer.MIN_VALUE};
    private static final String[] FACTS = {"which", "step", "column", "row", "tilt", "night"};
    private static final String[] SIGNS = {"+", "-", "*", "/", "%", "<", ">", "=", "and", "or"};
    private static final String SOUP = "abz0159;()<>=+-*/% \n!A~{`";

    private final Random random;
    private final List<Method> methods = new ArrayList<>();
    private NightHouses x;
    private Model model;
    private final StringBuilder told = new StringBuilder();

    private FuzzTest(long seed) {
        random = new Random(seed);
        for (Method method : NightHouses.class.getDeclaredMethods()) {
            if (java.lang.reflect.Modifier.isPublic(method.getModifiers())) {
                methods.add(method);
            }
        }
        methods.sort(Comparator.comparing(Method::getName));
    }

    public static void main(String[] args) throws Exception {
        int runs = args.length > 0 ? Integer.parseInt(args[0]) : RUNS;
        long from = args.length > 1 ? Long.parseLong(args[1]) : 1;
        for (long seed = from; seed < from + runs; seed++) {
            new FuzzTest(seed).run();
        }
        Check.finish();
    }

    private int pick(int below) {
        return random.nextInt(below);
    }

    private void run() throws Exception {
        x = new NightHouses();
        model = new Model();
        told.setLength(0);
        tell();
        int calls = 20 + pick(180);
        for (int i = 0; i < calls; i++) {
            int sort = pick(100);
            if (sort < 1) {
                tell();
            } else if (sort < 25) {
                call("step", pick(2) == 0);
            } else if (sort < 30) {
                call("walk", 1 + pick(4));
            } else if (sort < 34) {
                call("hedge", pick(36));
            } else if (sort < 38) {
                call("seen", pick(13), pick(pick(2) == 0 ? 36 : 4), pick(3) == 0);
            } else {
                any();
            }
        }
    }

    private void any() throws Exception {
        Method method = methods.get(pick(methods.size()));
        Class<?>[] types = method.getParameterTypes();
        Object[] with = new Object[types.length];
        for (int i = 0; i < types.length; i++) {
            with[i] = types[i] == boolean.class ? (Object) (pick(2) == 0) : (Object) number();
        }
        call(method.getName(), with);
    }

    private int number() {
        int sort = pick(20);
        return sort == 0 ? ODD[pick(ODD.length)] : pick(sort < 14 ? 4 : sort < 18 ? 12 : 61);
    }

    private void call(String name, Object... with) throws Exception {
        Class<?>[] types = new Class<?>[with.length];
        for (int i = 0; i < with.length; i++) {
            types[i] = with[i] instanceof Boolean ? boolean.class : int.class;
        }
        long got = value(NightHouses.class.getMethod(name, types).invoke(x, with));
        long want = value(Model.class.getMethod(name, types).invoke(model, with));
        String call = name + Arrays.toString(with);
        told.append(call).append(" = ").append(want).append('\n');
        if (got != want) {
            System.out.println(told);
        }
        Check.due(call, got, want);
    }

    private static long value(Object answer) {
        return answer instanceof Boolean truth ? truth ? 1 : 0 : (Integer) answer;
    }

    private void tell() throws Exception {
        String text = text();
        if (pick(4) == 0) {
            text = spoilt(text);
        }
        told.append("text: ").append(text).append('\n');
        byte[] bytes = text.getBytes(StandardCharsets.ISO_8859_1);
        call("end", 0);
        for (int at = 0; at < bytes.length; at += 20) {
            call("feed", Check.four(bytes, at), Check.four(bytes, at + 4), Check.four(bytes, at + 8),
                    Check.four(bytes, at + 12), Check.four(bytes, at + 16));
        }
        call("end", bytes.length);
        call("land");
        call("fault", 0);
        call("fault", 1);
        for (int what = 0; what < 17; what++) {
            call("about", what);
        }
    }

    private String spoilt(String text) {
        StringBuilder all = new StringBuilder(text);
        for (int i = 0; i <= pick(2) && all.length() > 0; i++) {
            int at = pick(all.length());
            char sign = SOUP.charAt(pick(SOUP.length()));
            switch (pick(4)) {
                case 0 -> all.deleteCharAt(at);
                case 1 -> all.setCharAt(at, sign);
                case 2 -> all.insert(at, sign);
                default -> all.setLength(at);
            }
        }
        return all.toString();
    }

    private String text() {
        int columns = 1 + pick(6);
        int rows = 1 + pick(6);
        StringBuilder all = new StringBuilder();
        if (pick(8) != 0) {
            all.append("land ").append(columns).append(" by ").append(rows).append(";");
        } else {
            columns = 6;
            rows = 6;
        }
        boolean[] hedged = new boolean[36];
        for (int i = pick(Math.min(9, columns * rows)); i > 0; i--) {
            int cell = pick(columns * rows);
            if (!hedged[cell] || pick(20) == 0) {
                all.append("hedge ").append(cell % columns).append(" ").append(cell / columns).append(";");
            }
            hedged[cell] = true;
        }
        int houses = pick(60) == 0 ? 6 : pick(6);
        for (int i = 0; i < houses; i++) {
            int cell = free(hedged, columns * rows);
            all.append(pick(3) == 0 ? "\n" : "").append("house ").append("abcdefghijkl".charAt(pick(30) == 0 ? 0 : i))
                    .append(" at ").append(cell % columns).append(" ").append(cell / columns).append(";");
        }
        if (pick(2) == 0) {
            int cell = free(hedged, columns * rows);
            all.append("cat ").append(cell % columns).append(" ").append(cell / columns).append(";");
        }
        if (pick(12) != 0) {
            all.append("goes ").append(formula(pick(50) == 0 ? 40 : 1 + pick(9), 0)).append(";");
        }
        if (pick(2) == 0) {
            all.append("calls ").append(pick(12)).append(";");
        }
        if (pick(3) != 0) {
            all.append("gale ").append(pick(102)).append(";");
        }
        if (pick(2) == 0) {
            all.append("draw ").append(pick(1001)).append(";");
        }
        return all.toString();
    }

    private int free(boolean[] hedged, int cells) {
        int cell = pick(cells);
        for (int i = 0; i < 100 && hedged[cell] && pick(40) != 0; i++) {
            cell = pick(cells);
        }
        return cell;
    }

    private String formula(int units, int depth) {
        StringBuilder all = new StringBuilder();
        for (int i = 0; i < units; i++) {
            if (i > 0) {
                all.append(" ").append(SIGNS[pick(pick(3) == 0 ? SIGNS.length : 5)]).append(" ");
            }
            boolean inner = depth < 9 && pick(6) == 0;
            String not = pick(25) == 0 && (i == 0 || all.toString().matches("(?s).*(and|or) ")) ? "not " : "";
            all.append(not);
            if (inner) {
                all.append("(").append(formula(1 + pick(4), depth + 1)).append(")");
            } else {
                all.append(pick(2) == 0 ? FACTS[pick(6)] : Integer.toString(pick(pick(9) == 0 ? 10000 : 9)));
            }
        }
        return all.toString();
    }
}
