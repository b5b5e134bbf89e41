import java.util.Arrays;

/**
 * Houses that go about a land by night, and the cat that calls them home.
 *
 * <p>Every row that a call needs is made in the constructor and used again: a call makes no object,
 * so that any number of calls fits in the room that a run has.
 */
public final class NightHouses {
    public static final int NONE = -1;

    private static final int MOST_BYTES = 1600;
    private static final int FED_AT_ONCE = 20;
    private static final int MOST_SIDE = 6;
    private static final int MOST_CELLS = 36;
    private static final int MOST_HOUSES = 5;
    private static final int MOST_TOLD_HEDGES = 8;
    private static final int MOST_HEDGES = 12;
    private static final int WAYS = 5;
    private static final int MOST_COUNTED = 99;
    private static final int MOST_STEPS = 999;
    private static final int MOST_NIGHTS = 999;
    private static final int MOST_CALLS = 10;
    private static final int MOST_GALE = 100;
    private static final int SEEDS = 1000;
    private static final int FAR_AHEAD = 60;
    private static final int NEAR_AHEAD = 20;
    private static final int LOOKED_AHEAD = 99;
    private static final int MOST_PLANNED = 10;
    private static final int MOST_TURNS = 3;
    private static final int MOST_ODDS = 4;
    private static final int BOXES = 3;
    private static final int MOST_LATER = 1000;
    private static final int LAST_TIME = 100_000;

    private final byte[] tape = new byte[MOST_BYTES];
    private int taped = 0;
    private Land told = new Land();
    private Land draft = new Land();
    private final Reader reader = new Reader();
    private final Night now = new Night();
    private final Night trial = new Night();
    private final History history = new History();
    private final Night[] boxes = new Night[BOXES];
    private int filledBoxes = 0;
    private final Walks walks = new Walks();
    private final Planner planner = new Planner();
    private final Fencer fencer = new Fencer();
    private final Sightings sightings = new Sightings();
    private int time = 0;
    private final int[] lying = new int[MOST_PLANNED];
    private int lyingCount = 0;

    public NightHouses() {
        for (int box = 0; box < BOXES; box++) {
            boxes[box] = new Night();
        }
        told.clear();
        told.finish();
        now.begin(told);
        sightings.forget();
    }

    // ---- the text ----

    public int feed(int a, int b, int c, int d, int e) {
        if (taped + FED_AT_ONCE > MOST_BYTES) {
            return NONE;
        }
        putNumber(a);
        putNumber(b);
        putNumber(c);
        putNumber(d);
        putNumber(e);
        return taped;
    }

    private void putNumber(int number) {
        for (int shift = 24; shift >= 0 && taped < MOST_BYTES; shift -= 8) {
            tape[taped] = (byte) (number >>> shift);
            taped++;
        }
    }

    public int end(int n) {
        if (n < 0 || n > taped) {
            return NONE;
        }
        taped = n;
        return n;
    }

    public int land() {
        reader.begin(tape, taped, draft);
        if (!reader.read()) {
            return NONE;
        }
        draft.finish();
        Land before = told;
        told = draft;
        draft = before;
        taped = 0;
        now.begin(told);
        history.clear();
        sightings.forget();
        lyingCount = 0;
        filledBoxes = 0;
        return told.houses;
    }

    public int fault(int what) {
        switch (what) {
            case 0:
                return reader.fault;
            case 1:
                return reader.faultPlace;
            default:
                return NONE;
        }
    }

    // ---- what is so now ----

    public int house(int house, int what) {
        if (!isHouse(house)) {
            return NONE;
        }
        switch (what) {
            case 0:
                return now.cells[house];
            case 1:
                return told.homes[house];
            case 2:
                return now.tilts[house];
            case 3:
                return now.abroad[house];
            case 4:
                return Steps.nextWay(told, now, house);
            case 5:
                return housesAt(now.cells[house]);
            default:
                return NONE;
        }
    }

    public int spot(int spot, int what) {
        if (!isCell(spot)) {
            return NONE;
        }
        switch (what) {
            case 0:
                return now.hasHedge(spot) ? 1 : 0;
            case 1:
                return housesAt(spot);
            case 2:
                return told.far(spot, now.cat);
            default:
                return NONE;
        }
    }

    public int about(int what) {
        switch (what) {
            case 0:
                return told.houses;
            case 1:
                return told.columns;
            case 2:
                return told.rows;
            case 3:
                return Long.bitCount(now.hedges);
            case 4:
                return now.cat;
            case 5:
                return now.step;
            case 6:
                return now.number;
            case 7:
                return now.seed;
            default:
                return aboutKept(what);
        }
    }

    private int aboutKept(int what) {
        switch (what) {
            case 8:
                return history.past;
            case 9:
                return history.ahead;
            case 10:
                return sightings.count;
            case 11:
                return time;
            case 12:
                return taped;
            case 13:
                return told.formula.units;
            case 14:
                return lyingCount;
            case 15:
                return told.calls;
            case 16:
                return told.gale;
            default:
                return NONE;
        }
    }

    public int lies(int i) {
        return i >= 0 && i < lyingCount ? lying[i] : NONE;
    }

    public int hear() {
        int bits = 0;
        for (int house = 0; house < told.houses; house++) {
            if (Steps.hears(told, now, house, told.calls)) {
                bits |= 1 << house;
            }
        }
        return bits;
    }

    public int law(int n) {
        if (n < 0 || n > MOST_COUNTED) {
            return NONE;
        }
        int count = 0;
        for (int house = 0; house < told.houses; house++) {
            if (Steps.hears(told, now, house, n)) {
                count++;
            }
        }
        return count;
    }

    public int home() {
        return Steps.atHome(told, now);
    }

    public int tilted() {
        int most = NONE;
        for (int house = 0; house < told.houses; house++) {
            if (most == NONE || now.tilts[house] > now.tilts[most]) {
                most = house;
            }
        }
        return most;
    }

    public int odds(int n, int part) {
        if (n < 0 || n > MOST_ODDS || part < 0 || part > 1) {
            return NONE;
        }
        int upper = 1;
        int lower = 1;
        for (int i = 0; i < n; i++) {
            upper *= MOST_GALE - told.gale;
            lower *= MOST_GALE;
        }
        int shared = commonDivisor(lower, upper);
        if (shared < 1) {
            return NONE;
        }
        return (part == 0 ? upper : lower) / shared;
    }

    private static int commonDivisor(int greater, int lesser) {
        int a = greater;
        int b = lesser;
        for (int i = 0; i < 100 && b != 0; i++) {
            int rest = a % b;
            a = b;
            b = rest;
        }
        return a;
    }

    // ---- acts ----

    public int step(boolean call) {
        if (now.step >= MOST_STEPS) {
            return NONE;
        }
        history.keep(now);
        Steps.take(told, now, call ? told.calls : NONE, true);
        return Steps.together(told, now);
    }

    public int walk(int way) {
        if (way < 1 || way >= WAYS) {
            return NONE;
        }
        int to = told.goal(now.hedges, now.cat, way);
        if (to == now.cat) {
            return NONE;
        }
        history.keep(now);
        now.cat = to;
        return to;
    }

    public int dawn() {
        if (now.number >= MOST_NIGHTS) {
            return NONE;
        }
        history.keep(now);
        now.step = 0;
        now.number++;
        int bits = ((1 << told.houses) - 1) & ~Steps.atHome(told, now);
        for (int house = 0; house < told.houses; house++) {
            if ((bits >> house & 1) != 0 && now.abroad[house] < MOST_COUNTED) {
                now.abroad[house]++;
            }
        }
        return bits;
    }

    public int hedge(int spot) {
        if (!isCell(spot) || !isBare(spot) || Long.bitCount(now.hedges) >= MOST_HEDGES) {
            return NONE;
        }
        history.keep(now);
        now.hedges |= 1L << spot;
        return Long.bitCount(now.hedges);
    }

    public int cut(int spot) {
        if (!isCell(spot) || !now.hasHedge(spot)) {
            return NONE;
        }
        history.keep(now);
        now.hedges &= ~(1L << spot);
        return Long.bitCount(now.hedges);
    }

    public boolean undo() {
        return history.takeBack(now);
    }

    public boolean redo() {
        return history.doAgain(now);
    }

    public int image(int box) {
        if (box < 0 || box >= BOXES) {
            return NONE;
        }
        boxes[box].copy(now);
        filledBoxes |= 1 << box;
        return now.number;
    }

    public int restore(int box) {
        if (box < 0 || box >= BOXES || (filledBoxes >> box & 1) == 0) {
            return NONE;
        }
        now.copy(boxes[box]);
        history.clear();
        return now.number;
    }

    // ---- what would come ----

    public int will(int house, int n, int what) {
        if (!isHouse(house) || n < 0 || n > FAR_AHEAD || what < 0 || what > 2) {
            return NONE;
        }
        tryAhead(n, what == 2 ? told.calls : NONE, what == 1);
        return trial.cells[house];
    }

    public int back(int house) {
        if (!isHouse(house)) {
            return NONE;
        }
        trial.copy(now);
        for (int steps = 0; steps <= LOOKED_AHEAD; steps++) {
            if (trial.cells[house] == told.homes[house]) {
                return steps;
            }
            Steps.take(told, trial, NONE, false);
        }
        return NONE;
    }

    public int meet(int house, int other) {
        if (!arePair(house, other)) {
            return NONE;
        }
        trial.copy(now);
        for (int steps = 0; steps <= LOOKED_AHEAD; steps++) {
            if (trial.cells[house] == trial.cells[other]) {
                return steps;
            }
            Steps.take(told, trial, NONE, false);
        }
        return NONE;
    }

    public int plan(int house, int n) {
        lyingCount = 0;
        if (!isHouse(house) || n < 0 || n > MOST_PLANNED) {
            return NONE;
        }
        int calls = planner.fewestCalls(told, now, house, n);
        if (calls != NONE) {
            System.arraycopy(planner.best, 0, lying, 0, n);
            lyingCount = n;
        }
        return calls;
    }

    public int fence(int house, int other, int n) {
        lyingCount = 0;
        if (!arePair(house, other) || n < 0 || n > NEAR_AHEAD) {
            return NONE;
        }
        int hedges = fencer.fewestHedges(told, now, house, other, n, bareCells());
        if (hedges != NONE) {
            lying[0] = fencer.first;
            lying[1] = fencer.second;
            lyingCount = hedges;
        }
        return hedges;
    }

    public int post(int n, int what) {
        if (n < 0 || n > NEAR_AHEAD || what < 0 || what > 1) {
            return NONE;
        }
        int best = NONE;
        int most = NONE;
        for (int cell = 0; cell < told.cells; cell++) {
            if (now.hasHedge(cell)) {
                continue;
            }
            trial.copy(now);
            trial.cat = cell;
            goOn(n, told.calls, false);
            int count = Integer.bitCount(Steps.atHome(told, trial));
            if (count > most) {
                most = count;
                best = cell;
            }
        }
        return what == 0 ? best : most;
    }

    public int bell(int n, int what) {
        if (n < 0 || n > NEAR_AHEAD || what < 0 || what > 1) {
            return NONE;
        }
        int best = NONE;
        int most = NONE;
        for (int calls = 0; calls <= MOST_CALLS; calls++) {
            tryAhead(n, calls, false);
            int count = Integer.bitCount(Steps.atHome(told, trial));
            if (count > most) {
                most = count;
                best = calls;
            }
        }
        return what == 0 ? best : most;
    }

    public int haunt(int n) {
        if (n < 1 || n > FAR_AHEAD || told.houses == 0) {
            return NONE;
        }
        walks.clearCounts();
        trial.copy(now);
        for (int i = 0; i < n; i++) {
            Steps.take(told, trial, NONE, false);
            walks.countHouses(told, trial);
        }
        return walks.mostCounted(told);
    }

    public int gather(int n) {
        if (n < 0 || n > FAR_AHEAD || told.houses == 0) {
            return NONE;
        }
        tryAhead(n, NONE, false);
        walks.clearCounts();
        walks.countHouses(told, trial);
        return walks.mostCounted(told);
    }

    public int stray(int house, int n) {
        if (!isHouse(house) || n < 0 || n > FAR_AHEAD) {
            return NONE;
        }
        trial.copy(now);
        int farthest = told.far(trial.cells[house], told.homes[house]);
        for (int i = 0; i < n; i++) {
            Steps.take(told, trial, NONE, false);
            farthest = Math.max(farthest, told.far(trial.cells[house], told.homes[house]));
        }
        return farthest;
    }

    public int homely(int n, boolean call) {
        if (n < 0 || n > FAR_AHEAD) {
            return NONE;
        }
        tryAhead(n, call ? told.calls : NONE, false);
        return Integer.bitCount(Steps.atHome(told, trial));
    }

    public int quarrels(int n) {
        if (n < 0 || n > FAR_AHEAD) {
            return NONE;
        }
        tryAhead(n, NONE, false);
        int more = 0;
        for (int house = 0; house < told.houses; house++) {
            more += trial.tilts[house] - now.tilts[house];
        }
        return more;
    }

    // ---- ways ----

    public int way(int spot) {
        if (!isCell(spot)) {
            return NONE;
        }
        walks.spread(told, now.hedges, now.cat);
        return walks.lengthTo(spot);
    }

    public int realm() {
        walks.spread(told, now.hedges, now.cat);
        return walks.reached;
    }

    public int fetch() {
        walks.spread(told, now.hedges, now.cat);
        int first = NONE;
        int least = MOST_CELLS;
        for (int house = 0; house < told.houses; house++) {
            int length = walks.lengthTo(now.cells[house]);
            boolean away = now.cells[house] != told.homes[house];
            if (away && length != NONE && length < least) {
                least = length;
                first = house;
            }
        }
        return first;
    }

    public int lost() {
        int bits = 0;
        for (int house = 0; house < told.houses; house++) {
            walks.spread(told, now.hedges, now.cells[house]);
            if (walks.lengthTo(told.homes[house]) == NONE) {
                bits |= 1 << house;
            }
        }
        return bits;
    }

    public int suits(int house) {
        if (!isHouse(house)) {
            return NONE;
        }
        int from = now.cells[house];
        int aim = told.homes[house];
        int bits = 0;
        for (int way = 0; way < WAYS; way++) {
            if (told.far(told.goal(now.hedges, from, way), aim) < told.far(from, aim)) {
                bits |= 1 << way;
            }
        }
        return bits;
    }

    public int chase(int house, int n, int what) {
        if (!isHouse(house) || n < 1 || n > MOST_TURNS || what < 0 || what > 1) {
            return NONE;
        }
        int from = now.cells[house];
        int best = NONE;
        int bestWay = NONE;
        for (int way = 0; way < WAYS; way++) {
            int to = told.goal(now.hedges, from, way);
            int far = way > 0 && to == from ? NONE : nearestChase(to, now.cat, n);
            if (far > best) {
                best = far;
                bestWay = way;
            }
        }
        return what == 0 ? best : bestWay;
    }

    /** How far the house can be behind so many turns, when it is the house's turn. */
    private int farthestFlight(int fled, int cat, int turns) {
        if (turns < 1) {
            return told.far(fled, cat);
        }
        int best = NONE;
        for (int way = 0; way < WAYS; way++) {
            int to = told.goal(now.hedges, fled, way);
            if (way == 0 || to != fled) {
                best = Math.max(best, nearestChase(to, cat, turns));
            }
        }
        return best;
    }

    /** How near the cat can be behind so many turns, when the house has gone in the first of them. */
    private int nearestChase(int fled, int cat, int turns) {
        int best = MOST_CELLS;
        for (int way = 0; way < WAYS; way++) {
            int to = told.goal(now.hedges, cat, way);
            if (way == 0 || to != cat) {
                best = Math.min(best, farthestFlight(fled, to, turns - 1));
            }
        }
        return best;
    }

    // ---- pairs ----

    public int swap(int what) {
        int most = Integer.bitCount(Steps.atHome(told, now));
        int pair = NONE;
        for (int first = 0; first < told.houses; first++) {
            for (int other = first + 1; other < told.houses; other++) {
                int count = atHomeExchanged(first, other);
                if (count > most) {
                    most = count;
                    pair = first * MOST_HOUSES + other;
                }
            }
        }
        return ofPair(pair, what, most);
    }

    private int atHomeExchanged(int first, int other) {
        int count = 0;
        for (int house = 0; house < told.houses; house++) {
            int whose = house == first ? other : house == other ? first : house;
            if (now.cells[whose] == told.homes[house]) {
                count++;
            }
        }
        return count;
    }

    public int closest(int what) {
        int least = MOST_CELLS;
        int pair = NONE;
        for (int first = 0; first < told.houses; first++) {
            for (int other = first + 1; other < told.houses; other++) {
                int far = told.far(now.cells[first], now.cells[other]);
                if (far < least) {
                    least = far;
                    pair = first * MOST_HOUSES + other;
                }
            }
        }
        return ofPair(pair, what, least);
    }

    private static int ofPair(int pair, int what, int measure) {
        if (pair == NONE) {
            return NONE;
        }
        switch (what) {
            case 0:
                return pair / MOST_HOUSES;
            case 1:
                return pair % MOST_HOUSES;
            case 2:
                return measure;
            default:
                return NONE;
        }
    }

    // ---- where the last house stood at first ----

    public int seen(int steps, int spot, boolean is) {
        if (told.houses == 0 || steps < 0 || steps > Sightings.MOST_STEPS_SEEN || !isCell(spot)) {
            return NONE;
        }
        return sightings.tell(steps, spot, is, time);
    }

    public boolean untell(int seen) {
        return sightings.takeAway(seen, time);
    }

    public int later(int by) {
        if (by < 0 || by > MOST_LATER || time + by > LAST_TIME) {
            return NONE;
        }
        time += by;
        return time;
    }

    public int fits(int k) {
        return Long.bitCount(sightings.fitting(told, k));
    }

    public int sure(int what, int k) {
        long fitting = sightings.fitting(told, k);
        if (fitting == 0) {
            return NONE;
        }
        switch (what) {
            case 0:
                return Long.numberOfTrailingZeros(fitting);
            case 1:
                return 63 - Long.numberOfLeadingZeros(fitting);
            default:
                return NONE;
        }
    }

    public int ask(int what, int k) {
        long fitting = sightings.fitting(told, k);
        if (fitting == 0 || what < 0 || what > 1) {
            return NONE;
        }
        int best = NONE;
        int least = MOST_CELLS + 1;
        for (int steps = 0; steps <= Sightings.MOST_STEPS_SEEN; steps++) {
            int left = sightings.mostLeft(told, fitting, steps);
            if (left < least) {
                least = left;
                best = steps;
            }
        }
        return what == 0 ? best : least;
    }

    // ---- what many calls use ----

    private boolean isHouse(int house) {
        return house >= 0 && house < told.houses;
    }

    private boolean arePair(int house, int other) {
        return isHouse(house) && isHouse(other) && house != other;
    }

    private boolean isCell(int spot) {
        return spot >= 0 && spot < told.cells;
    }

    private boolean isBare(int cell) {
        return !now.hasHedge(cell) && cell != now.cat && housesAt(cell) == 0;
    }

    private long bareCells() {
        long cells = 0;
        for (int cell = 0; cell < told.cells; cell++) {
            if (isBare(cell)) {
                cells |= 1L << cell;
            }
        }
        return cells;
    }

    private int housesAt(int cell) {
        int bits = 0;
        for (int house = 0; house < told.houses; house++) {
            if (now.cells[house] == cell) {
                bits |= 1 << house;
            }
        }
        return bits;
    }

    private void tryAhead(int n, int reach, boolean gales) {
        trial.copy(now);
        goOn(n, reach, gales);
    }

    private void goOn(int n, int reach, boolean gales) {
        for (int i = 0; i < n; i++) {
            Steps.take(told, trial, reach, gales);
        }
    }

    /** The land as it was told, and how its cells lie to one another. */
    private static final class Land {
        final int[] homes = new int[MOST_HOUSES];
        final Formula formula = new Formula();
        private final int[] columnOf = new int[MOST_CELLS];
        private final int[] rowOf = new int[MOST_CELLS];
        private final int[] beside = new int[MOST_CELLS * WAYS];
        int columns;
        int rows;
        int cells;
        int houses;
        long hedges;
        int cat;
        int calls;
        int gale;
        int draw;

        void clear() {
            resize(MOST_SIDE, MOST_SIDE);
            formula.clear();
            houses = 0;
            hedges = 0;
            cat = NONE;
            calls = 2;
            gale = 0;
            draw = 0;
        }

        void resize(int newColumns, int newRows) {
            columns = newColumns;
            rows = newRows;
            cells = newColumns * newRows;
        }

        boolean hasHedge(int cell) {
            return (hedges >>> cell & 1) != 0;
        }

        boolean hasHome(int cell) {
            for (int house = 0; house < houses; house++) {
                if (homes[house] == cell) {
                    return true;
                }
            }
            return false;
        }

        /** What only the whole text tells: where a cat that is not told stands, and which cells are neighbours. */
        void finish() {
            for (int cell = 0; cell < cells && cat == NONE; cell++) {
                if (!hasHedge(cell)) {
                    cat = cell;
                }
            }
            if (cat == NONE) {
                cat = 0;
            }
            int cell = 0;
            for (int row = 0; row < rows; row++) {
                for (int column = 0; column < columns && cell < MOST_CELLS; column++) {
                    columnOf[cell] = column;
                    rowOf[cell] = row;
                    int at = cell * WAYS;
                    beside[at] = cell;
                    beside[at + 1] = row > 0 ? cell - columns : cell;
                    beside[at + 2] = column < columns - 1 ? cell + 1 : cell;
                    beside[at + 3] = row < rows - 1 ? cell + columns : cell;
                    beside[at + 4] = column > 0 ? cell - 1 : cell;
                    cell++;
                }
            }
        }

        /** Where one comes to from a cell by a way, with these hedges. */
        int goal(long standing, int cell, int way) {
            if (cell < 0 || cell >= MOST_CELLS || way < 0 || way >= WAYS) {
                return cell;
            }
            int to = beside[cell * WAYS + way];
            return (standing >>> to & 1) != 0 ? cell : to;
        }

        int columnAt(int cell) {
            return cell >= 0 && cell < MOST_CELLS ? columnOf[cell] : 0;
        }

        int rowAt(int cell) {
            return cell >= 0 && cell < MOST_CELLS ? rowOf[cell] : 0;
        }

        int far(int one, int other) {
            return Math.abs(columnAt(one) - columnAt(other)) + Math.abs(rowAt(one) - rowAt(other));
        }
    }

    /** The formula by which houses go, its parts in the order in which they are worked out. */
    private static final class Formula {
        static final int MOST_UNITS = 60;
        static final int MOST_UNITS_IN_ONE = 30;
        /** 30 units, 29 signs between them, 7 nots ahead of each unit at the most. */
        static final int MOST_PARTS = 300;
        /** Parts from 0 up are numbers; the facts stand right below 0, so that their place in the row follows. */
        static final int WHICH = -1;
        static final int STEP = -2;
        static final int COLUMN = -3;
        static final int ROW = -4;
        static final int TILT = -5;
        static final int NIGHT = -6;
        static final int FACTS = 6;
        static final int OR = -7;
        static final int AND = -8;
        static final int NOT = -9;
        static final int LESS = -10;
        static final int MORE = -11;
        static final int SAME = -12;
        static final int PLUS = -13;
        static final int MINUS = -14;
        static final int TIMES = -15;
        static final int CUT = -16;
        static final int REST = -17;

        private final int[] parts = new int[MOST_PARTS];
        private final int[] facts = new int[FACTS];
        private final int[] stack = new int[MOST_UNITS];
        private int length;
        int units;

        void clear() {
            length = 0;
            units = 0;
        }

        void add(int part) {
            if (length < MOST_PARTS) {
                parts[length] = part;
                length++;
            }
        }

        void setPlace(int which, int column, int row) {
            facts[0] = which;
            facts[2] = column;
            facts[3] = row;
        }

        void setTimes(int step, int tilt, int night) {
            facts[1] = step;
            facts[4] = tilt;
            facts[5] = night;
        }

        /** What comes of it by the facts that are set: 0 of one that is not told. */
        int worth() {
            int top = 0;
            for (int i = 0; i < length; i++) {
                int part = parts[i];
                if (part >= NIGHT && top < MOST_UNITS) {
                    stack[top] = part >= 0 ? part : facts[-1 - part];
                    top++;
                } else if (part == NOT && top > 0) {
                    stack[top - 1] = stack[top - 1] == 0 ? 1 : 0;
                } else if (top > 1) {
                    top--;
                    stack[top - 1] = join(part, stack[top - 1], stack[top]);
                }
            }
            return top < 1 ? 0 : stack[0];
        }

        private static int join(int sign, int left, int right) {
            switch (sign) {
                case OR:
                    return left != 0 || right != 0 ? 1 : 0;
                case AND:
                    return left != 0 && right != 0 ? 1 : 0;
                case LESS:
                    return left < right ? 1 : 0;
                case MORE:
                    return left > right ? 1 : 0;
                case SAME:
                    return left == right ? 1 : 0;
                case PLUS:
                    return left + right;
                case MINUS:
                    return left - right;
                case TIMES:
                    return left * right;
                case CUT:
                    return right == 0 ? 0 : left / right;
                case REST:
                    return right == 0 ? 0 : left % right;
                default:
                    return 0;
            }
        }
    }

    /** All that changes while houses go about. */
    private static final class Night {
        final int[] cells = new int[MOST_HOUSES];
        final int[] tilts = new int[MOST_HOUSES];
        final int[] abroad = new int[MOST_HOUSES];
        long hedges;
        int cat;
        int step;
        int number;
        int seed;

        void begin(Land land) {
            System.arraycopy(land.homes, 0, cells, 0, MOST_HOUSES);
            Arrays.fill(tilts, 0);
            Arrays.fill(abroad, 0);
            hedges = land.hedges;
            cat = land.cat;
            step = 0;
            number = 0;
            seed = land.draw;
        }

        void copy(Night from) {
            System.arraycopy(from.cells, 0, cells, 0, MOST_HOUSES);
            System.arraycopy(from.tilts, 0, tilts, 0, MOST_HOUSES);
            System.arraycopy(from.abroad, 0, abroad, 0, MOST_HOUSES);
            hedges = from.hedges;
            cat = from.cat;
            step = from.step;
            number = from.number;
            seed = from.seed;
        }

        boolean hasHedge(int cell) {
            return (hedges >>> cell & 1) != 0;
        }
    }

    /** How houses go, come and quarrel. */
    private static final class Steps {

        private Steps() {
        }

        /** A step; the cat calls those that are within reach (NONE: she does not call). */
        static void take(Land land, Night night, int reach, boolean gales) {
            for (int house = 0; house < land.houses; house++) {
                if (hears(land, night, house, reach)) {
                    night.cells[house] = cellCalledTo(land, night, house);
                } else {
                    night.cells[house] = land.goal(night.hedges, night.cells[house], nextWay(land, night, house));
                }
            }
            for (int house = 0; gales && house < land.houses; house++) {
                night.seed = (night.seed * 137 + 71) % SEEDS;
                if (night.seed % 100 < land.gale) {
                    night.cells[house] = land.goal(night.hedges, night.cells[house], nextWay(land, night, house));
                }
            }
            quarrel(land, night);
            night.step++;
        }

        private static void quarrel(Land land, Night night) {
            int bits = together(land, night);
            for (int house = 0; house < land.houses; house++) {
                if ((bits >> house & 1) != 0 && night.tilts[house] < MOST_COUNTED) {
                    night.tilts[house]++;
                }
            }
        }

        static int together(Land land, Night night) {
            int bits = 0;
            for (int house = 0; house < land.houses; house++) {
                for (int other = house + 1; other < land.houses; other++) {
                    if (night.cells[house] == night.cells[other]) {
                        bits |= 1 << house | 1 << other;
                    }
                }
            }
            return bits;
        }

        static int atHome(Land land, Night night) {
            int bits = 0;
            for (int house = 0; house < land.houses; house++) {
                if (night.cells[house] == land.homes[house]) {
                    bits |= 1 << house;
                }
            }
            return bits;
        }

        static boolean hears(Land land, Night night, int house, int reach) {
            return reach >= 0 && land.far(night.cells[house], night.cat) <= reach;
        }

        static int nextWay(Land land, Night night, int house) {
            int cell = night.cells[house];
            land.formula.setPlace(house, land.columnAt(cell), land.rowAt(cell));
            land.formula.setTimes(night.step, night.tilts[house], night.number);
            return Math.floorMod(land.formula.worth(), WAYS);
        }

        private static int cellCalledTo(Land land, Night night, int house) {
            int cell = night.cells[house];
            int aside = land.columnAt(night.cat) - land.columnAt(cell);
            int along = land.rowAt(night.cat) - land.rowAt(cell);
            if (aside != 0) {
                int to = land.goal(night.hedges, cell, aside > 0 ? 2 : 4);
                if (to != cell) {
                    return to;
                }
            }
            return along == 0 ? cell : land.goal(night.hedges, cell, along > 0 ? 3 : 1);
        }
    }

    /** The acts that can be undone or done again, kept as what was so between them. */
    private static final class History {
        static final int MOST_ACTS = 40;
        /** One more than the acts: also what is so behind the last one is kept, for redo. */
        static final int ROWS = 41;

        final Night[] rows = new Night[ROWS];
        int oldest = 0;
        int past = 0;
        int ahead = 0;

        History() {
            for (int i = 0; i < ROWS; i++) {
                rows[i] = new Night();
            }
        }

        void clear() {
            past = 0;
            ahead = 0;
        }

        private Night current() {
            return rows[(oldest + past) % ROWS];
        }

        /** To be called right ahead of an act. */
        void keep(Night now) {
            current().copy(now);
            ahead = 0;
            if (past < MOST_ACTS) {
                past++;
            } else {
                oldest = (oldest + 1) % ROWS;
            }
        }

        boolean takeBack(Night now) {
            if (past == 0) {
                return false;
            }
            current().copy(now);
            past--;
            ahead++;
            now.copy(current());
            return true;
        }

        boolean doAgain(Night now) {
            if (ahead == 0) {
                return false;
            }
            ahead--;
            past++;
            now.copy(current());
            return true;
        }
    }

    /** The text's bytes as tokens, one at a time. */
    private static final class Tokens {
        /** Signs are kinds by their own numbers, words that stand for themselves by their place here, behind 255. */
        static final String WORDS =
                "land by hedge house at cat goes calls gale draw or and not which step column row tilt night ";
        static final int FIRST_WORD = 256;
        static final int LAND = 256;
        static final int BY = 257;
        static final int HEDGE = 258;
        static final int HOUSE = 259;
        static final int AT = 260;
        static final int CAT = 261;
        static final int GOES = 262;
        static final int CALLS = 263;
        static final int GALE = 264;
        static final int DRAW = 265;
        static final int OR = 266;
        static final int AND = 267;
        static final int NOT = 268;
        static final int WHICH = 269;
        static final int STEP = 270;
        static final int COLUMN = 271;
        static final int ROW = 272;
        static final int TILT = 273;
        static final int NIGHT = 274;
        static final int NAME = 300;
        static final int NUMBER = 301;
        static final int NO_TOKEN = 302;
        static final int OVER = 303;
        static final String SIGNS = ";()<>=+-*/%";
        static final int MOST_LETTERS = 8;
        static final int MOST_DIGITS = 4;

        private byte[] text;
        private int length;
        private int next;
        int kind;
        int place;
        int number;
        /** The word's letters in one number: eight of five bits each. */
        long word;

        void begin(byte[] bytes, int count) {
            text = bytes;
            length = bytes == null ? 0 : Math.min(count, bytes.length);
            next = 0;
            advance();
        }

        private int byteAt(int at) {
            return at >= 0 && at < length && text != null ? text[at] & 255 : 0;
        }

        private static boolean isLetter(int sign) {
            return sign >= 'a' && sign <= 'z';
        }

        private static boolean isDigit(int sign) {
            return sign >= '0' && sign <= '9';
        }

        void advance() {
            while (next < length && (byteAt(next) == 32 || byteAt(next) == 10)) {
                next++;
            }
            place = next;
            int sign = byteAt(next);
            if (next >= length) {
                kind = OVER;
            } else if (isLetter(sign)) {
                passLetters();
                kind = next - place > MOST_LETTERS ? NO_TOKEN : kindOfWord();
            } else if (isDigit(sign)) {
                passDigits();
                kind = next - place > MOST_DIGITS || isLetter(byteAt(next)) ? NO_TOKEN : NUMBER;
            } else {
                kind = SIGNS.indexOf((char) sign) >= 0 ? sign : NO_TOKEN;
                next++;
            }
        }

        private void passLetters() {
            word = 0;
            while (next < length && isLetter(byteAt(next))) {
                word = word * 32 + (byteAt(next) - 'a' + 1);
                next++;
            }
        }

        private void passDigits() {
            number = 0;
            while (next < length && isDigit(byteAt(next))) {
                number = number * 10 + (byteAt(next) - '0');
                next++;
            }
        }

        private int kindOfWord() {
            long each = 0;
            int found = FIRST_WORD;
            for (int i = 0; i < WORDS.length(); i++) {
                char sign = WORDS.charAt(i);
                if (sign != ' ') {
                    each = each * 32 + (sign - 'a' + 1);
                } else if (each == word) {
                    return found;
                } else {
                    each = 0;
                    found++;
                }
            }
            return NAME;
        }
    }

    /** Reads a text as a land, up to its first fault. */
    private static final class Reader {
        static final int NO_TOKEN_THERE = 1;
        static final int CANT_STAND_THERE = 2;
        static final int CELL_OR_NAME = 3;
        static final int BAD_NUMBER = 4;
        static final int DEEPEST = 7;

        private final Tokens tokens = new Tokens();
        private final long[] names = new long[MOST_HOUSES];
        private Land land;
        private boolean catTold;
        private boolean goesTold;
        private boolean callsTold;
        private boolean galeTold;
        private boolean drawTold;
        private int hedgesTold;
        private int unitsInOne;
        /** A number or a cell that was just read. */
        private int got;
        int fault = 0;
        int faultPlace = NONE;

        /** To be called ahead of read: where the text is, and where its land is to be written. */
        void begin(byte[] text, int length, Land into) {
            land = into;
            land.clear();
            catTold = false;
            goesTold = false;
            callsTold = false;
            galeTold = false;
            drawTold = false;
            hedgesTold = 0;
            unitsInOne = 0;
            fault = 0;
            faultPlace = NONE;
            tokens.begin(text, length);
        }

        boolean read() {
            boolean good = land != null;
            for (int line = 0; good && line <= MOST_BYTES && tokens.kind != Tokens.OVER; line++) {
                switch (tokens.kind) {
                    case Tokens.LAND:
                        good = passFirst(line == 0) && readSize();
                        break;
                    case Tokens.HEDGE:
                        good = passFirst(hedgesTold < MOST_TOLD_HEDGES) && readHedge();
                        break;
                    case Tokens.HOUSE:
                        good = passFirst(land.houses < MOST_HOUSES) && readHouse();
                        break;
                    case Tokens.CAT:
                        good = passFirst(!catTold) && readCat();
                        break;
                    case Tokens.GOES:
                        good = passFirst(!goesTold) && readGoes();
                        break;
                    case Tokens.CALLS:
                        good = passFirst(!callsTold) && readCalls();
                        break;
                    case Tokens.GALE:
                        good = passFirst(!galeTold) && readGale();
                        break;
                    case Tokens.DRAW:
                        good = passFirst(!drawTold) && readDraw();
                        break;
                    default:
                        good = refuseToken();
                        break;
                }
                good = good && pass(';');
            }
            return good;
        }

        private boolean refuse(int which, int place) {
            fault = which;
            faultPlace = place;
            return false;
        }

        private boolean refuseToken() {
            boolean none = tokens.kind == Tokens.NO_TOKEN;
            return refuse(none ? NO_TOKEN_THERE : CANT_STAND_THERE, tokens.place);
        }

        private boolean pass(int kind) {
            if (tokens.kind != kind) {
                return refuseToken();
            }
            tokens.advance();
            return true;
        }

        /** Passes a line's first word, if a line of its sort may still come. */
        private boolean passFirst(boolean may) {
            return may ? pass(tokens.kind) : refuseToken();
        }

        private boolean readNumber(int least, int most) {
            if (tokens.kind != Tokens.NUMBER) {
                return refuseToken();
            }
            if (tokens.number < least || tokens.number > most) {
                return refuse(BAD_NUMBER, tokens.place);
            }
            got = tokens.number;
            tokens.advance();
            return true;
        }

        private boolean readSize() {
            if (!readNumber(1, MOST_SIDE) || !pass(Tokens.BY)) {
                return false;
            }
            int columns = got;
            if (!readNumber(1, MOST_SIDE)) {
                return false;
            }
            land.resize(columns, got);
            return true;
        }

        private boolean readCell(boolean forHedge) {
            if (!readNumber(0, land.columns - 1)) {
                return false;
            }
            int column = got;
            int rowPlace = tokens.place;
            if (!readNumber(0, land.rows - 1)) {
                return false;
            }
            got = got * land.columns + column;
            boolean taken = land.hasHedge(got) || forHedge && (land.hasHome(got) || land.cat == got);
            return !taken || refuse(CELL_OR_NAME, rowPlace);
        }

        private boolean readHedge() {
            if (!readCell(true)) {
                return false;
            }
            land.hedges |= 1L << got;
            hedgesTold++;
            return true;
        }

        private boolean readHouse() {
            if (tokens.kind != Tokens.NAME) {
                return refuseToken();
            }
            long name = tokens.word;
            for (int house = 0; house < land.houses; house++) {
                if (names[house] == name) {
                    return refuse(CELL_OR_NAME, tokens.place);
                }
            }
            tokens.advance();
            if (!pass(Tokens.AT) || !readCell(false) || land.houses >= MOST_HOUSES) {
                return false;
            }
            names[land.houses] = name;
            land.homes[land.houses] = got;
            land.houses++;
            return true;
        }

        private boolean readCat() {
            if (!readCell(false)) {
                return false;
            }
            land.cat = got;
            catTold = true;
            return true;
        }

        private boolean readGoes() {
            goesTold = true;
            return readEither(0);
        }

        private boolean readCalls() {
            if (!readNumber(0, MOST_CALLS)) {
                return false;
            }
            land.calls = got;
            callsTold = true;
            return true;
        }

        private boolean readGale() {
            if (!readNumber(0, MOST_GALE)) {
                return false;
            }
            land.gale = got;
            galeTold = true;
            return true;
        }

        private boolean readDraw() {
            if (!readNumber(0, SEEDS - 1)) {
                return false;
            }
            land.draw = got;
            drawTold = true;
            return true;
        }

        private boolean readEither(int depth) {
            if (!readBoth(depth)) {
                return false;
            }
            for (int i = 0; i < MOST_BYTES && tokens.kind == Tokens.OR; i++) {
                tokens.advance();
                if (!readBoth(depth)) {
                    return false;
                }
                land.formula.add(Formula.OR);
            }
            return true;
        }

        private boolean readBoth(int depth) {
            if (!readOne(depth)) {
                return false;
            }
            for (int i = 0; i < MOST_BYTES && tokens.kind == Tokens.AND; i++) {
                tokens.advance();
                if (!readOne(depth)) {
                    return false;
                }
                land.formula.add(Formula.AND);
            }
            return true;
        }

        private boolean readOne(int depth) {
            if (tokens.kind == Tokens.NOT) {
                return readNot(depth);
            }
            if (!readSum(depth)) {
                return false;
            }
            int relation = relationOf(tokens.kind);
            if (relation == 0) {
                return true;
            }
            tokens.advance();
            if (!readSum(depth)) {
                return false;
            }
            land.formula.add(relation);
            return true;
        }

        private boolean readNot(int depth) {
            if (depth >= DEEPEST) {
                return refuseToken();
            }
            tokens.advance();
            if (!readOne(depth + 1)) {
                return false;
            }
            land.formula.add(Formula.NOT);
            return true;
        }

        private static int relationOf(int kind) {
            return kind == '<' ? Formula.LESS : kind == '>' ? Formula.MORE : kind == '=' ? Formula.SAME : 0;
        }

        private boolean readSum(int depth) {
            if (!readTerm(depth)) {
                return false;
            }
            for (int i = 0; i < MOST_BYTES && (tokens.kind == '+' || tokens.kind == '-'); i++) {
                int sign = tokens.kind == '+' ? Formula.PLUS : Formula.MINUS;
                tokens.advance();
                if (!readTerm(depth)) {
                    return false;
                }
                land.formula.add(sign);
            }
            return true;
        }

        private boolean readTerm(int depth) {
            if (!readUnit(depth)) {
                return false;
            }
            for (int i = 0; i < MOST_BYTES && foldOf(tokens.kind) != 0; i++) {
                int sign = foldOf(tokens.kind);
                tokens.advance();
                if (!readUnit(depth)) {
                    return false;
                }
                land.formula.add(sign);
            }
            return true;
        }

        private static int foldOf(int kind) {
            return kind == '*' ? Formula.TIMES : kind == '/' ? Formula.CUT : kind == '%' ? Formula.REST : 0;
        }

        private boolean readUnit(int depth) {
            boolean nested = tokens.kind == '(';
            boolean number = tokens.kind == Tokens.NUMBER;
            int fact = factOf(tokens.kind);
            boolean full = unitsInOne >= Formula.MOST_UNITS_IN_ONE || land.formula.units >= Formula.MOST_UNITS;
            if (full || !nested && !number && fact == 0 || nested && depth >= DEEPEST) {
                return refuseToken();
            }
            unitsInOne++;
            land.formula.units++;
            if (!nested) {
                land.formula.add(number ? tokens.number : fact);
            }
            tokens.advance();
            return !nested || readEither(depth + 1) && pass(')');
        }

        private static int factOf(int kind) {
            switch (kind) {
                case Tokens.WHICH:
                    return Formula.WHICH;
                case Tokens.STEP:
                    return Formula.STEP;
                case Tokens.COLUMN:
                    return Formula.COLUMN;
                case Tokens.ROW:
                    return Formula.ROW;
                case Tokens.TILT:
                    return Formula.TILT;
                case Tokens.NIGHT:
                    return Formula.NIGHT;
                default:
                    return 0;
            }
        }
    }

    /** How many ways of going it is from one cell to the others, and counts by cell. */
    private static final class Walks {
        private final int[] lengths = new int[MOST_CELLS];
        private final int[] queue = new int[MOST_CELLS];
        private final int[] counts = new int[MOST_CELLS];
        int reached;

        void spread(Land land, long hedges, int from) {
            Arrays.fill(lengths, NONE);
            reached = 0;
            reach(from, 0);
            for (int i = 0; i < reached && i < MOST_CELLS; i++) {
                int length = lengthTo(queue[i]) + 1;
                for (int way = 1; way < WAYS; way++) {
                    reach(land.goal(hedges, queue[i], way), length);
                }
            }
        }

        private void reach(int cell, int length) {
            if (isCell(cell) && lengths[cell] == NONE && reached < MOST_CELLS) {
                lengths[cell] = length;
                queue[reached] = cell;
                reached++;
            }
        }

        private static boolean isCell(int cell) {
            return cell >= 0 && cell < MOST_CELLS;
        }

        /** NONE, if one can't come there from where it was spread. */
        int lengthTo(int cell) {
            return isCell(cell) ? lengths[cell] : NONE;
        }

        void clearCounts() {
            Arrays.fill(counts, 0);
        }

        void countHouses(Land land, Night night) {
            for (int house = 0; house < land.houses; house++) {
                int cell = night.cells[house];
                if (isCell(cell)) {
                    counts[cell]++;
                }
            }
        }

        int mostCounted(Land land) {
            int most = 0;
            for (int cell = 1; cell < land.cells; cell++) {
                if (counts[cell] > counts[most]) {
                    most = cell;
                }
            }
            return most;
        }
    }

    /** Finds in which steps the cat should call. */
    private static final class Planner {
        final int[] best = new int[MOST_PLANNED];
        private final int[] tried = new int[MOST_PLANNED];
        private final Night[] rows = new Night[MOST_PLANNED + 1];
        private Land land;
        private int house;
        private int steps;
        private int fewest;

        Planner() {
            for (int i = 0; i <= MOST_PLANNED; i++) {
                rows[i] = new Night();
            }
        }

        int fewestCalls(Land told, Night now, int whose, int n) {
            land = told;
            house = whose;
            steps = Math.min(n, MOST_PLANNED);
            fewest = steps + 1;
            rows[0].copy(now);
            seek(0, 0);
            return fewest > steps ? NONE : fewest;
        }

        /** Goes on without a call ahead of with one, so that of like plans the first is found first. */
        private void seek(int depth, int calls) {
            if (depth < 0 || depth > steps || calls >= fewest) {
                return;
            }
            int away = land.far(rows[depth].cells[house], land.homes[house]);
            if (away > steps - depth) {
                return;
            }
            if (depth >= steps) {
                fewest = calls;
                System.arraycopy(tried, 0, best, 0, steps);
                return;
            }
            seekBehind(depth, calls, false);
            if (calls + 1 < fewest && someoneHears(rows[depth])) {
                seekBehind(depth, calls + 1, true);
            }
        }

        private void seekBehind(int depth, int calls, boolean call) {
            tried[depth] = call ? 1 : 0;
            rows[depth + 1].copy(rows[depth]);
            Steps.take(land, rows[depth + 1], call ? land.calls : NONE, false);
            seek(depth + 1, calls);
        }

        /** A call that no one hears changes nothing: the same plan without it is better. */
        private boolean someoneHears(Night night) {
            for (int each = 0; each < land.houses; each++) {
                if (Steps.hears(land, night, each, land.calls)) {
                    return true;
                }
            }
            return false;
        }
    }

    /**
     * Finds hedges that keep two houses apart. A hedge changes nothing if no house goes into its cell ahead of
     * the meeting; so each run tells into which cells houses went, and only hedges there are tried.
     */
    private static final class Fencer {
        private static final long APART = -1;

        private final Night trial = new Night();
        private final long[] entered = new long[MOST_CELLS];
        private Land land;
        private Night start;
        private int house;
        private int other;
        private int steps;
        int first;
        int second;

        int fewestHedges(Land told, Night now, int one, int two, int n, long bare) {
            land = told;
            start = now;
            house = one;
            other = two;
            steps = n;
            first = NONE;
            second = NONE;
            if (start.cells[house] == start.cells[other]) {
                return NONE;
            }
            long unfenced = cellsEntered(0);
            if (unfenced == APART) {
                return 0;
            }
            if (findOne(unfenced & bare)) {
                return 1;
            }
            return findTwo(unfenced & bare, bare) ? 2 : NONE;
        }

        private boolean findOne(long useful) {
            for (int cell = 0; cell < land.cells; cell++) {
                if (!has(useful, cell)) {
                    continue;
                }
                entered[cell] = cellsEntered(1L << cell);
                if (entered[cell] == APART) {
                    first = cell;
                    return true;
                }
            }
            return false;
        }

        private boolean findTwo(long useful, long bare) {
            for (int one = 0; one < land.cells; one++) {
                for (int two = one + 1; two < land.cells; two++) {
                    if (has(bare, one) && has(bare, two) && canDiffer(useful, one, two)
                            && cellsEntered(1L << one | 1L << two) == APART) {
                        first = one;
                        second = two;
                        return true;
                    }
                }
            }
            return false;
        }

        /** Whether two hedges might do what neither does alone. */
        private boolean canDiffer(long useful, int one, int two) {
            boolean oneUseful = has(useful, one);
            boolean twoUseful = has(useful, two);
            return (oneUseful || twoUseful)
                    && (!oneUseful || has(entered[one], two))
                    && (!twoUseful || has(entered[two], one));
        }

        private static boolean has(long cells, int cell) {
            return (cells >>> cell & 1) != 0;
        }

        /** The cells into which houses go till the two meet; APART if they do not. */
        private long cellsEntered(long more) {
            trial.copy(start);
            trial.hedges |= more;
            long cells = 0;
            for (int i = 0; i < steps; i++) {
                Steps.take(land, trial, NONE, false);
                for (int each = 0; each < land.houses; each++) {
                    cells |= 1L << trial.cells[each];
                }
                if (trial.cells[house] == trial.cells[other]) {
                    return cells;
                }
            }
            return APART;
        }
    }

    /** What was seen of the last house, when that was told and untold, and what it says of its first cell. */
    private static final class Sightings {
        static final int MOST_SEEN = 30;
        static final int MOST_STEPS_SEEN = 12;
        private static final int STOPS = 13;

        private final int[] steps = new int[MOST_SEEN];
        private final int[] spots = new int[MOST_SEEN];
        private final boolean[] wasThere = new boolean[MOST_SEEN];
        private final int[] toldAt = new int[MOST_SEEN];
        private final int[] untoldAt = new int[MOST_SEEN];
        /** By the first cell, by the number of steps: where the last house is then. */
        private final int[] track = new int[MOST_CELLS * STOPS];
        private final int[] counts = new int[MOST_CELLS];
        private final Night trial = new Night();
        private boolean tracked = false;
        int count = 0;

        void forget() {
            count = 0;
            tracked = false;
        }

        int tell(int behind, int spot, boolean is, int time) {
            if (count >= MOST_SEEN) {
                return NONE;
            }
            steps[count] = behind;
            spots[count] = spot;
            wasThere[count] = is;
            toldAt[count] = time;
            untoldAt[count] = NONE;
            count++;
            return count - 1;
        }

        boolean takeAway(int which, int time) {
            if (which < 0 || which >= count || untoldAt[which] != NONE) {
                return false;
            }
            untoldAt[which] = time;
            return true;
        }

        private boolean isKnown(int which, int k) {
            boolean untold = untoldAt[which] != NONE && untoldAt[which] <= k;
            return toldAt[which] <= k && !untold;
        }

        /** The tracks follow from the land alone: they are made once, when they are asked for first. */
        private void makeTracks(Land land) {
            int last = land.houses - 1;
            if (tracked || last < 0) {
                return;
            }
            for (int from = 0; from < land.cells; from++) {
                trial.begin(land);
                trial.cells[last] = from;
                track[from * STOPS] = from;
                for (int stop = 1; stop < STOPS; stop++) {
                    Steps.take(land, trial, NONE, false);
                    track[from * STOPS + stop] = trial.cells[last];
                }
            }
            tracked = true;
        }

        private int cellBehind(int from, int stop) {
            int at = from * STOPS + stop;
            return at >= 0 && at < track.length ? track[at] : 0;
        }

        /** The cells that fit as known at k, as bits. */
        long fitting(Land land, int k) {
            if (land.houses == 0) {
                return 0;
            }
            makeTracks(land);
            long cells = ((1L << land.cells) - 1) & ~land.hedges;
            for (int which = 0; which < count; which++) {
                if (isKnown(which, k)) {
                    cells &= agreeing(land, which);
                }
            }
            return cells;
        }

        private long agreeing(Land land, int which) {
            long cells = 0;
            for (int cell = 0; cell < land.cells; cell++) {
                boolean there = cellBehind(cell, steps[which]) == spots[which];
                if (there == wasThere[which]) {
                    cells |= 1L << cell;
                }
            }
            return cells;
        }

        /** How many of these cells are left at the most, when it is known where the house was behind so many steps. */
        int mostLeft(Land land, long cells, int behind) {
            Arrays.fill(counts, 0);
            int most = 0;
            for (int cell = 0; cell < land.cells; cell++) {
                int at = cellBehind(cell, behind);
                if ((cells >>> cell & 1) != 0 && at >= 0 && at < MOST_CELLS) {
                    counts[at]++;
                    most = Math.max(most, counts[at]);
                }
            }
            return most;
        }
    }
}
