import java.util.ArrayDeque;
import java.util.ArrayList;
import java.util.HashMap;
import java.util.HashSet;
import java.util.List;
import java.util.Map;
import java.util.Set;

/**
 * The document once more, in the most naive way: everything is tried, nothing is kept for later, objects are made
 * freely. FuzzTest compares the class with it.
 */
public final class Model {
    static final int NONE = -1;
    static final Set<String> WORDS = Set.of("land", "by", "hedge", "house", "at", "cat", "goes", "calls", "gale", "draw",
            "or", "and", "not", "which", "step", "column", "row", "tilt", "night");

    interface Node {
        int of(int which, int step, int column, int row, int tilt, int night);
    }

    static final class Fault extends RuntimeException {
        static final long serialVersionUID = 1;
        final int kind;
        final int place;

        Fault(int kind, int place) {
            this.kind = kind;
            this.place = place;
        }
    }

    record Token(String text, int place, boolean good) {
        boolean isNumber() {
            return good && !text.isEmpty() && Character.isDigit(text.charAt(0));
        }

        boolean isName() {
            return good && !text.isEmpty() && text.charAt(0) >= 'a' && text.charAt(0) <= 'z' && !WORDS.contains(text);
        }
    }

    /** The land as told. */
    static final class Told {
        int columns = 6;
        int rows = 6;
        Set<Integer> hedges = new HashSet<>();
        List<Integer> homes = new ArrayList<>();
        List<String> names = new ArrayList<>();
        Integer cat = null;
        Node goes = null;
        Integer calls = null;
        Integer gale = null;
        Integer draw = null;
        int units = 0;

        int calls() {
            return calls == null ? 2 : calls;
        }

        int gale() {
            return gale == null ? 0 : gale;
        }

        int cells() {
            return columns * rows;
        }
    }

    static final class Parser {
        final List<Token> tokens = new ArrayList<>();
        int at = 0;
        final Told told = new Told();

        Parser(String text) {
            int i = 0;
            while (i < text.length()) {
                char c = text.charAt(i);
                if (c == ' ' || c == '\n') {
                    i++;
                    continue;
                }
                int j = i;
                if (c >= 'a' && c <= 'z') {
                    while (j < text.length() && text.charAt(j) >= 'a' && text.charAt(j) <= 'z') {
                        j++;
                    }
                    tokens.add(new Token(text.substring(i, j), i, j - i <= 8));
                } else if (c >= '0' && c <= '9') {
                    while (j < text.length() && text.charAt(j) >= '0' && text.charAt(j) <= '9') {
                        j++;
                    }
                    boolean letter = j < text.length() && text.charAt(j) >= 'a' && text.charAt(j) <= 'z';
                    tokens.add(new Token(text.substring(i, j), i, j - i <= 4 && !letter));
                } else {
                    j++;
                    tokens.add(new Token(text.substring(i, j), i, ";()<>=+-*/%".indexOf(c) >= 0));
                }
                i = j;
            }
            tokens.add(new Token("", text.length(), true));
        }

        Token peek() {
            Token token = tokens.get(at);
            if (!token.good()) {
                throw new Fault(1, token.place());
            }
            return token;
        }

        boolean is(String text) {
            return peek().text().equals(text);
        }

        Token take() {
            Token token = peek();
            at++;
            return token;
        }

        void need(String text) {
            if (!is(text)) {
                throw new Fault(2, peek().place());
            }
            take();
        }

        int number(int least, int most) {
            if (!peek().isNumber()) {
                throw new Fault(2, peek().place());
            }
            int n = Integer.parseInt(peek().text());
            if (n < least || n > most) {
                throw new Fault(4, peek().place());
            }
            take();
            return n;
        }

        Told all() {
            boolean first = true;
            while (at < tokens.size() - 1) {
                line(first);
                need(";");
                first = false;
            }
            if (told.cat == null) {
                told.cat = 0;
                for (int cell = told.cells() - 1; cell >= 0; cell--) {
                    if (!told.hedges.contains(cell)) {
                        told.cat = cell;
                    }
                }
            }
            return told;
        }

        void first(boolean may) {
            if (!may) {
                throw new Fault(2, peek().place());
            }
            take();
        }

        void line(boolean first) {
            if (is("land")) {
                first(first);
                int columns = number(1, 6);
                need("by");
                told.rows = number(1, 6);
                told.columns = columns;
            } else if (is("hedge")) {
                first(told.hedges.size() < 8);
                int cell = cell();
                if (told.hedges.contains(cell) || told.homes.contains(cell) || told.cat != null && told.cat == cell) {
                    throw new Fault(3, tokens.get(at - 1).place());
                }
                told.hedges.add(cell);
            } else if (is("house")) {
                first(told.homes.size() < 5);
                if (!peek().isName()) {
                    throw new Fault(2, peek().place());
                }
                if (told.names.contains(peek().text())) {
                    throw new Fault(3, peek().place());
                }
                told.names.add(take().text());
                need("at");
                told.homes.add(freeCell());
            } else if (is("cat")) {
                first(told.cat == null);
                told.cat = freeCell();
            } else if (is("goes")) {
                first(told.goes == null);
                told.goes = either(0);
            } else if (is("calls")) {
                first(told.calls == null);
                told.calls = number(0, 10);
            } else if (is("gale")) {
                first(told.gale == null);
                told.gale = number(0, 100);
            } else if (is("draw")) {
                first(told.draw == null);
                told.draw = number(0, 999);
            } else {
                throw new Fault(2, peek().place());
            }
        }

        int cell() {
            int column = number(0, told.columns - 1);
            int row = number(0, told.rows - 1);
            return row * told.columns + column;
        }

        int freeCell() {
            int cell = cell();
            if (told.hedges.contains(cell)) {
                throw new Fault(3, tokens.get(at - 1).place());
            }
            return cell;
        }

        Node either(int depth) {
            Node left = both(depth);
            while (is("or")) {
                take();
                left = join("or", left, both(depth));
            }
            return left;
        }

        Node both(int depth) {
            Node left = one(depth);
            while (is("and")) {
                take();
                left = join("and", left, one(depth));
            }
            return left;
        }

        Node one(int depth) {
            if (is("not")) {
                if (depth > 6) {
                    throw new Fault(2, peek().place());
                }
                take();
                Node of = one(depth + 1);
                return (w, s, c, r, t, n) -> of.of(w, s, c, r, t, n) == 0 ? 1 : 0;
            }
            Node left = sum(depth);
            if (is("<") || is(">") || is("=")) {
                String sign = take().text();
                return join(sign, left, sum(depth));
            }
            return left;
        }

        Node sum(int depth) {
            Node left = term(depth);
            while (is("+") || is("-")) {
                String sign = take().text();
                left = join(sign, left, term(depth));
            }
            return left;
        }

        Node term(int depth) {
            Node left = unit(depth);
            while (is("*") || is("/") || is("%")) {
                String sign = take().text();
                left = join(sign, left, unit(depth));
            }
            return left;
        }

        Node unit(int depth) {
            Token token = peek();
            if (told.units == 30) {
                throw new Fault(2, token.place());
            }
            if (token.isNumber()) {
                told.units++;
                int number = Integer.parseInt(take().text());
                return (w, s, c, r, t, n) -> number;
            }
            if (is("(")) {
                if (depth > 6) {
                    throw new Fault(2, token.place());
                }
                told.units++;
                take();
                Node in = either(depth + 1);
                need(")");
                return in;
            }
            Node fact = switch (token.text()) {
                case "which" -> (w, s, c, r, t, n) -> w;
                case "step" -> (w, s, c, r, t, n) -> s;
                case "column" -> (w, s, c, r, t, n) -> c;
                case "row" -> (w, s, c, r, t, n) -> r;
                case "tilt" -> (w, s, c, r, t, n) -> t;
                case "night" -> (w, s, c, r, t, n) -> n;
                default -> throw new Fault(2, token.place());
            };
            told.units++;
            take();
            return fact;
        }

        static Node join(String sign, Node a, Node b) {
            return (w, s, c, r, t, n) -> {
                int x = a.of(w, s, c, r, t, n);
                int y = b.of(w, s, c, r, t, n);
                return switch (sign) {
                    case "or" -> x != 0 || y != 0 ? 1 : 0;
                    case "and" -> x != 0 && y != 0 ? 1 : 0;
                    case "<" -> x < y ? 1 : 0;
                    case ">" -> x > y ? 1 : 0;
                    case "=" -> x == y ? 1 : 0;
                    case "+" -> x + y;
                    case "-" -> x - y;
                    case "*" -> x * y;
                    case "/" -> y == 0 ? 0 : (int) ((long) x / y);
                    default -> y == 0 ? 0 : (int) ((long) x % y);
                };
            };
        }
    }

    /** What is so. */
    static final class State {
        List<Integer> cells = new ArrayList<>();
        List<Integer> tilts = new ArrayList<>();
        List<Integer> abroad = new ArrayList<>();
        Set<Integer> hedges = new HashSet<>();
        int cat;
        int step;
        int night;
        int seed;

        State copy() {
            State other = new State();
            other.cells.addAll(cells);
            other.tilts.addAll(tilts);
            other.abroad.addAll(abroad);
            other.hedges.addAll(hedges);
            other.cat = cat;
            other.step = step;
            other.night = night;
            other.seed = seed;
            return other;
        }
    }

    record Seen(int steps, int spot, boolean is, int toldAt, int[] untoldAt) {
    }

    private String tape = "";
    private Told told;
    private State now;
    private int faultKind = 0;
    private int faultPlace = NONE;
    private List<State> past = new ArrayList<>();
    private List<State> future = new ArrayList<>();
    private List<Seen> seen = new ArrayList<>();
    private List<Integer> lying = new ArrayList<>();
    private Map<Integer, State> boxes = new HashMap<>();
    private int time = 0;

    public Model() {
        told = new Parser("").all();
        now = fresh();
    }

    private State fresh() {
        State state = new State();
        for (int home : told.homes) {
            state.cells.add(home);
            state.tilts.add(0);
            state.abroad.add(0);
        }
        state.hedges.addAll(told.hedges);
        state.cat = told.cat;
        state.seed = told.draw == null ? 0 : told.draw;
        return state;
    }

    private int houses() {
        return told.homes.size();
    }

    private int column(int cell) {
        return cell % told.columns;
    }

    private int row(int cell) {
        return cell / told.columns;
    }

    private int distance(int a, int b) {
        return Math.abs(column(a) - column(b)) + Math.abs(row(a) - row(b));
    }

    private int go(Set<Integer> hedges, int cell, int way) {
        int column = column(cell) + (way == 2 ? 1 : way == 4 ? -1 : 0);
        int row = row(cell) + (way == 3 ? 1 : way == 1 ? -1 : 0);
        if (column < 0 || row < 0 || column >= told.columns || row >= told.rows) {
            return cell;
        }
        int to = row * told.columns + column;
        return hedges.contains(to) ? cell : to;
    }

    private int formula(State s, int house) {
        int cell = s.cells.get(house);
        int value = told.goes == null ? 0
                : told.goes.of(house, s.step, column(cell), row(cell), s.tilts.get(house), s.night);
        return ((value % 5) + 5) % 5;
    }

    private int come(State s, int house) {
        int cell = s.cells.get(house);
        int to = cell;
        if (column(s.cat) > column(cell)) {
            to = go(s.hedges, cell, 2);
        } else if (column(s.cat) < column(cell)) {
            to = go(s.hedges, cell, 4);
        }
        if (to != cell) {
            return to;
        }
        if (row(s.cat) > row(cell)) {
            return go(s.hedges, cell, 3);
        }
        return row(s.cat) < row(cell) ? go(s.hedges, cell, 1) : cell;
    }

    private int crowded(State s) {
        int bits = 0;
        for (int i = 0; i < houses(); i++) {
            int same = 0;
            for (int cell : s.cells) {
                same += cell == s.cells.get(i) ? 1 : 0;
            }
            bits |= same > 1 ? 1 << i : 0;
        }
        return bits;
    }

    private State after(State s, boolean call, int calls, boolean gales) {
        State t = s.copy();
        for (int i = 0; i < houses(); i++) {
            boolean hears = call && distance(s.cells.get(i), s.cat) <= calls;
            t.cells.set(i, hears ? come(s, i) : go(s.hedges, s.cells.get(i), formula(s, i)));
        }
        for (int i = 0; gales && i < houses(); i++) {
            t.seed = (t.seed * 137 + 71) % 1000;
            if (t.seed % 100 < told.gale()) {
                t.cells.set(i, go(t.hedges, t.cells.get(i), formula(t, i)));
            }
        }
        for (int i = 0; i < houses(); i++) {
            if ((crowded(t) >> i & 1) == 1) {
                t.tilts.set(i, Math.min(99, t.tilts.get(i) + 1));
            }
        }
        t.step++;
        return t;
    }

    private State after(State s, int n, boolean call, int calls, boolean gales) {
        State t = s;
        for (int i = 0; i < n; i++) {
            t = after(t, call, calls, gales);
        }
        return t;
    }

    private int homeBits(State s) {
        int bits = 0;
        for (int i = 0; i < houses(); i++) {
            bits |= s.cells.get(i).equals(told.homes.get(i)) ? 1 << i : 0;
        }
        return bits;
    }

    private int homeCount(State s) {
        return Integer.bitCount(homeBits(s));
    }

    private boolean no(int x, int least, int most) {
        return x < least || x > most;
    }

    private boolean noHouse(int house) {
        return no(house, 0, houses() - 1);
    }

    private boolean noCell(int cell) {
        return no(cell, 0, told.cells() - 1);
    }

    private int bitsAt(int cell) {
        int bits = 0;
        for (int i = 0; i < houses(); i++) {
            bits |= now.cells.get(i) == cell ? 1 << i : 0;
        }
        return bits;
    }

    private void act() {
        past.add(now.copy());
        future.clear();
        if (past.size() > 40) {
            past.remove(0);
        }
    }

    public int feed(int a, int b, int c, int d, int e) {
        if (tape.length() + 20 > 1600) {
            return NONE;
        }
        StringBuilder more = new StringBuilder(tape);
        for (int x : new int[] {a, b, c, d, e}) {
            more.append((char) (x >>> 24)).append((char) (x >>> 16 & 255)).append((char) (x >>> 8 & 255))
                    .append((char) (x & 255));
        }
        tape = more.toString();
        return tape.length();
    }

    public int end(int n) {
        if (no(n, 0, tape.length())) {
            return NONE;
        }
        tape = tape.substring(0, n);
        return n;
    }

    public int land() {
        try {
            told = new Parser(tape).all();
        } catch (Fault fault) {
            faultKind = fault.kind;
            faultPlace = fault.place;
            return NONE;
        }
        faultKind = 0;
        faultPlace = NONE;
        tape = "";
        now = fresh();
        past.clear();
        future.clear();
        seen.clear();
        lying.clear();
        boxes.clear();
        return houses();
    }

    public int fault(int what) {
        return what == 0 ? faultKind : what == 1 ? faultPlace : NONE;
    }

    public int house(int house, int what) {
        if (noHouse(house)) {
            return NONE;
        }
        return switch (what) {
            case 0 -> now.cells.get(house);
            case 1 -> told.homes.get(house);
            case 2 -> now.tilts.get(house);
            case 3 -> now.abroad.get(house);
            case 4 -> formula(now, house);
            case 5 -> bitsAt(now.cells.get(house));
            default -> NONE;
        };
    }

    public int spot(int spot, int what) {
        if (noCell(spot)) {
            return NONE;
        }
        return switch (what) {
            case 0 -> now.hedges.contains(spot) ? 1 : 0;
            case 1 -> bitsAt(spot);
            case 2 -> distance(spot, now.cat);
            default -> NONE;
        };
    }

    public int step(boolean call) {
        if (now.step >= 999) {
            return NONE;
        }
        act();
        now = after(now, call, told.calls(), true);
        return crowded(now);
    }

    public int walk(int way) {
        if (no(way, 1, 4) || go(now.hedges, now.cat, way) == now.cat) {
            return NONE;
        }
        act();
        now.cat = go(now.hedges, now.cat, way);
        return now.cat;
    }

    public int dawn() {
        if (now.night >= 999) {
            return NONE;
        }
        act();
        now.step = 0;
        now.night++;
        int bits = 0;
        for (int i = 0; i < houses(); i++) {
            if ((homeBits(now) >> i & 1) == 0) {
                bits |= 1 << i;
                now.abroad.set(i, Math.min(99, now.abroad.get(i) + 1));
            }
        }
        return bits;
    }

    private boolean bare(int cell) {
        return bitsAt(cell) == 0 && now.cat != cell && !now.hedges.contains(cell);
    }

    public int hedge(int spot) {
        if (noCell(spot) || !bare(spot) || now.hedges.size() >= 12) {
            return NONE;
        }
        act();
        now.hedges.add(spot);
        return now.hedges.size();
    }

    public int cut(int spot) {
        if (noCell(spot) || !now.hedges.contains(spot)) {
            return NONE;
        }
        act();
        now.hedges.remove(spot);
        return now.hedges.size();
    }

    public boolean undo() {
        if (past.isEmpty()) {
            return false;
        }
        future.add(now);
        now = past.remove(past.size() - 1);
        return true;
    }

    public boolean redo() {
        if (future.isEmpty()) {
            return false;
        }
        past.add(now);
        now = future.remove(future.size() - 1);
        return true;
    }

    public int will(int house, int n, int what) {
        if (noHouse(house) || no(n, 0, 60) || no(what, 0, 2)) {
            return NONE;
        }
        return after(now, n, what == 2, told.calls(), what == 1).cells.get(house);
    }

    public int back(int house) {
        for (int n = 0; !noHouse(house) && n <= 99; n++) {
            if (after(now, n, false, 0, false).cells.get(house).equals(told.homes.get(house))) {
                return n;
            }
        }
        return NONE;
    }

    public int meet(int house, int other) {
        if (noHouse(house) || noHouse(other) || house == other) {
            return NONE;
        }
        return meeting(now, house, other, 99);
    }

    private int meeting(State from, int house, int other, int most) {
        State s = from;
        for (int n = 0; n <= most; n++) {
            if (s.cells.get(house).equals(s.cells.get(other))) {
                return n;
            }
            s = after(s, false, 0, false);
        }
        return NONE;
    }

    public int plan(int house, int n) {
        lying.clear();
        if (noHouse(house) || no(n, 0, 10)) {
            return NONE;
        }
        int best = NONE;
        for (int bits = 0; bits < 1 << n; bits++) {
            if (best != NONE && Integer.bitCount(bits) >= Integer.bitCount(best)) {
                continue;
            }
            State s = now;
            for (int i = n - 1; i >= 0; i--) {
                s = after(s, (bits >> i & 1) == 1, told.calls(), false);
            }
            if (s.cells.get(house).equals(told.homes.get(house))) {
                best = bits;
            }
        }
        if (best == NONE) {
            return NONE;
        }
        for (int i = n - 1; i >= 0; i--) {
            lying.add(best >> i & 1);
        }
        return Integer.bitCount(best);
    }

    private boolean apart(int house, int other, int n, int... more) {
        State s = now.copy();
        for (int cell : more) {
            s.hedges.add(cell);
        }
        return meeting(s, house, other, n) == NONE;
    }

    public int fence(int house, int other, int n) {
        lying.clear();
        if (noHouse(house) || noHouse(other) || house == other || no(n, 0, 20)) {
            return NONE;
        }
        if (apart(house, other, n)) {
            return 0;
        }
        for (int a = 0; a < told.cells(); a++) {
            if (bare(a) && apart(house, other, n, a)) {
                lying.add(a);
                return 1;
            }
        }
        for (int a = 0; a < told.cells(); a++) {
            for (int b = a + 1; b < told.cells(); b++) {
                if (bare(a) && bare(b) && apart(house, other, n, a, b)) {
                    lying.add(a);
                    lying.add(b);
                    return 2;
                }
            }
        }
        return NONE;
    }

    public int post(int n, int what) {
        if (no(n, 0, 20) || no(what, 0, 1)) {
            return NONE;
        }
        int best = NONE;
        int most = NONE;
        for (int cell = told.cells() - 1; cell >= 0; cell--) {
            State s = now.copy();
            s.cat = cell;
            int count = homeCount(after(s, n, true, told.calls(), false));
            if (!now.hedges.contains(cell) && count >= most) {
                most = count;
                best = cell;
            }
        }
        return what == 0 ? best : most;
    }

    private Map<Integer, Integer> ways(int from) {
        Map<Integer, Integer> lengths = new HashMap<>();
        ArrayDeque<Integer> queue = new ArrayDeque<>();
        lengths.put(from, 0);
        queue.add(from);
        while (!queue.isEmpty()) {
            int cell = queue.remove();
            for (int way = 1; way < 5; way++) {
                int to = go(now.hedges, cell, way);
                if (!lengths.containsKey(to)) {
                    lengths.put(to, lengths.get(cell) + 1);
                    queue.add(to);
                }
            }
        }
        return lengths;
    }

    public int way(int spot) {
        return ways(now.cat).getOrDefault(spot, NONE);
    }

    private int chased(int house, int cat, int n, int firstWay) {
        if (n == 0) {
            return distance(house, cat);
        }
        int most = NONE;
        for (int way = 0; way < 5; way++) {
            if (firstWay != NONE && firstWay != way) {
                continue;
            }
            int least = 1000;
            for (int hers = 0; hers < 5; hers++) {
                least = Math.min(least, chased(go(now.hedges, house, way), go(now.hedges, cat, hers), n - 1, NONE));
            }
            most = Math.max(most, least);
        }
        return most;
    }

    public int chase(int house, int n, int what) {
        if (noHouse(house) || no(n, 1, 3) || no(what, 0, 1)) {
            return NONE;
        }
        int most = chased(now.cells.get(house), now.cat, n, NONE);
        for (int way = 0; way < 5; way++) {
            if (chased(now.cells.get(house), now.cat, n, way) == most) {
                return what == 0 ? most : way;
            }
        }
        return -100;
    }

    public int fetch() {
        for (int length = 0; length < 36; length++) {
            for (int i = 0; i < houses(); i++) {
                if ((homeBits(now) >> i & 1) == 0 && way(now.cells.get(i)) == length) {
                    return i;
                }
            }
        }
        return NONE;
    }

    private int mostAt(List<Integer> cells) {
        int best = NONE;
        int most = 0;
        for (int cell = 0; cell < told.cells(); cell++) {
            int count = 0;
            for (int each : cells) {
                count += each == cell ? 1 : 0;
            }
            if (count > most) {
                most = count;
                best = cell;
            }
        }
        return best;
    }

    public int haunt(int n) {
        List<Integer> all = new ArrayList<>();
        for (int i = 1; !no(n, 1, 60) && i <= n; i++) {
            all.addAll(after(now, i, false, 0, false).cells);
        }
        return mostAt(all);
    }

    public int stray(int house, int n) {
        int most = NONE;
        for (int i = 0; !noHouse(house) && !no(n, 0, 60) && i <= n; i++) {
            most = Math.max(most, distance(after(now, i, false, 0, false).cells.get(house), told.homes.get(house)));
        }
        return most;
    }

    public int suits(int house) {
        if (noHouse(house)) {
            return NONE;
        }
        int bits = 0;
        int home = told.homes.get(house);
        for (int way = 0; way < 5; way++) {
            int cell = now.cells.get(house);
            bits |= distance(go(now.hedges, cell, way), home) < distance(cell, home) ? 1 << way : 0;
        }
        return bits;
    }

    public int gather(int n) {
        return no(n, 0, 60) ? NONE : mostAt(after(now, n, false, 0, false).cells);
    }

    public int lost() {
        int bits = 0;
        for (int i = 0; i < houses(); i++) {
            bits |= ways(now.cells.get(i)).containsKey(told.homes.get(i)) ? 0 : 1 << i;
        }
        return bits;
    }

    public int swap(int what) {
        int[] best = {NONE, NONE, homeCount(now)};
        for (int i = 0; i < houses(); i++) {
            for (int j = i + 1; j < houses(); j++) {
                State s = now.copy();
                s.cells.set(i, now.cells.get(j));
                s.cells.set(j, now.cells.get(i));
                if (homeCount(s) > best[2]) {
                    best = new int[] {i, j, homeCount(s)};
                }
            }
        }
        return best[0] == NONE || no(what, 0, 2) ? NONE : best[what];
    }

    public int bell(int n, int what) {
        if (no(n, 0, 20) || no(what, 0, 1)) {
            return NONE;
        }
        int[] best = {NONE, NONE};
        for (int calls = 0; calls <= 10; calls++) {
            int count = homeCount(after(now, n, true, calls, false));
            if (count > best[1]) {
                best = new int[] {calls, count};
            }
        }
        return best[what];
    }

    private int hearing(int calls) {
        int bits = 0;
        for (int i = 0; i < houses(); i++) {
            bits |= distance(now.cells.get(i), now.cat) <= calls ? 1 << i : 0;
        }
        return bits;
    }

    public int hear() {
        return hearing(told.calls());
    }

    public int home() {
        return homeBits(now);
    }

    public int homely(int n, boolean call) {
        return no(n, 0, 60) ? NONE : homeCount(after(now, n, call, told.calls(), false));
    }

    public int tilted() {
        for (int tilt = 99; tilt >= 0; tilt--) {
            if (now.tilts.contains(tilt)) {
                return now.tilts.indexOf(tilt);
            }
        }
        return NONE;
    }

    public int quarrels(int n) {
        if (no(n, 0, 60)) {
            return NONE;
        }
        int sum = 0;
        State s = after(now, n, false, 0, false);
        for (int i = 0; i < houses(); i++) {
            sum += s.tilts.get(i) - now.tilts.get(i);
        }
        return sum;
    }

    public int closest(int what) {
        int[] best = {NONE, NONE, 1000};
        for (int i = 0; i < houses(); i++) {
            for (int j = i + 1; j < houses(); j++) {
                int far = distance(now.cells.get(i), now.cells.get(j));
                if (far < best[2]) {
                    best = new int[] {i, j, far};
                }
            }
        }
        return best[0] == NONE || no(what, 0, 2) ? NONE : best[what];
    }

    public int law(int n) {
        return no(n, 0, 99) ? NONE : Integer.bitCount(hearing(n));
    }

    public int realm() {
        return ways(now.cat).size();
    }

    public int odds(int n, int part) {
        if (no(n, 0, 4) || no(part, 0, 1)) {
            return NONE;
        }
        long upper = Math.round(Math.pow(100 - told.gale(), n));
        long lower = Math.round(Math.pow(100, n));
        for (int prime : new int[] {2, 5}) {
            while (upper % prime == 0 && lower % prime == 0) {
                upper /= prime;
                lower /= prime;
            }
        }
        return (int) (upper == 0 ? part : part == 0 ? upper : lower);
    }

    public int lies(int i) {
        return no(i, 0, lying.size() - 1) ? NONE : lying.get(i);
    }

    public int seen(int steps, int spot, boolean is) {
        if (no(steps, 0, 12) || noCell(spot) || seen.size() >= 30 || houses() == 0) {
            return NONE;
        }
        seen.add(new Seen(steps, spot, is, time, new int[] {NONE}));
        return seen.size() - 1;
    }

    public boolean untell(int which) {
        if (no(which, 0, seen.size() - 1) || seen.get(which).untoldAt()[0] != NONE) {
            return false;
        }
        seen.get(which).untoldAt()[0] = time;
        return true;
    }

    public int later(int by) {
        if (no(by, 0, 1000) || time + by > 100000) {
            return NONE;
        }
        time += by;
        return time;
    }

    private int lastHouse(int from, int steps) {
        State s = fresh();
        s.cells.set(houses() - 1, from);
        return after(s, steps, false, 0, false).cells.get(houses() - 1);
    }

    private List<Integer> fitting(int k) {
        List<Integer> fits = new ArrayList<>();
        for (int cell = 0; houses() > 0 && cell < told.cells(); cell++) {
            boolean good = !told.hedges.contains(cell);
            for (Seen each : seen) {
                int untold = each.untoldAt()[0];
                boolean counts = each.toldAt() <= k && !(untold != NONE && untold <= k);
                good = good && (!counts || (lastHouse(cell, each.steps()) == each.spot()) == each.is());
            }
            if (good) {
                fits.add(cell);
            }
        }
        return fits;
    }

    public int fits(int k) {
        return fitting(k).size();
    }

    public int sure(int what, int k) {
        List<Integer> fits = fitting(k);
        return fits.isEmpty() || no(what, 0, 1) ? NONE : fits.get(what == 0 ? 0 : fits.size() - 1);
    }

    public int ask(int what, int k) {
        List<Integer> fits = fitting(k);
        if (fits.isEmpty() || no(what, 0, 1)) {
            return NONE;
        }
        int[] best = {NONE, 1000};
        for (int steps = 0; steps <= 12; steps++) {
            Map<Integer, Integer> left = new HashMap<>();
            int most = 0;
            for (int cell : fits) {
                most = Math.max(most, left.merge(lastHouse(cell, steps), 1, Integer::sum));
            }
            if (most < best[1]) {
                best = new int[] {steps, most};
            }
        }
        return best[what];
    }

    public int image(int box) {
        if (no(box, 0, 2)) {
            return NONE;
        }
        boxes.put(box, now.copy());
        return now.night;
    }

    public int restore(int box) {
        if (!boxes.containsKey(box)) {
            return NONE;
        }
        now = boxes.get(box).copy();
        past.clear();
        future.clear();
        return now.night;
    }

    public int about(int what) {
        int[] all = {houses(), told.columns, told.rows, now.hedges.size(), now.cat, now.step, now.night, now.seed,
            past.size(), future.size(), seen.size(), time, tape.length(), told.units, lying.size(), told.calls(),
            told.gale()};
        return no(what, 0, 16) ? NONE : all[what];
    }
}
