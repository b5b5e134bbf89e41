/** Promises 15 to 20, 22, 24, 25, 27, 30, 33, 35 and 40: what would come. */
public final class AheadTest {
    private static final String TOWARDS = "land 5 by 1;house a at 0 0;house b at 4 0;cat 0 0;calls 0;goes 2+which*2;";

    public static void main(String[] args) {
        will();
        backAndMeet();
        plan();
        fence();
        fenceOfTwo();
        post();
        bell();
        chase();
        countsAhead();
        nothingThere();
        Check.finish();
    }

    private static void will() {
        NightHouses x = Check.told("land 6 by 1;house a at 0 0;goes 2;gale 100;draw 5;cat 0 0;");
        Check.due("will(0, 0, 0)", x.will(0, 0, 0), 0);
        Check.due("will(0, 1, 0)", x.will(0, 1, 0), 1);
        Check.due("will(0, 1, 1)", x.will(0, 1, 1), 2);
        Check.due("will(0, 1, 2)", x.will(0, 1, 2), 0);
        Check.due("will(0, 60, 0)", x.will(0, 60, 0), 5);
        Check.due("will(0, 61, 0)", x.will(0, 61, 0), -1);
        Check.due("will(0, -1, 0)", x.will(0, -1, 0), -1);
        Check.due("will(0, 1, 3)", x.will(0, 1, 3), -1);
        Check.due("will(0, 1, -1)", x.will(0, 1, -1), -1);
        Check.due("will(1, 1, 0)", x.will(1, 1, 0), -1);
        Check.due("will(-1, 1, 0)", x.will(-1, 1, 0), -1);
        Check.due("nothing is done", x.about(5) + x.about(8) + x.house(0, 0), 0);
        Check.due("about(7)", x.about(7), 5);
        NightHouses y = Check.told("land 6 by 6;house a at 2 3;house b at 4 4;goes step*3+column+which*2;gale 40;draw 77;");
        int a = y.will(0, 3, 1);
        int b = y.will(1, 3, 1);
        y.step(false);
        y.step(false);
        y.step(false);
        Check.due("gales as they come", y.house(0, 0) * 100 + y.house(1, 0), a * 100 + b);
    }

    private static void backAndMeet() {
        NightHouses x = Check.told(TOWARDS);
        Check.due("back(0) at home", x.back(0), 0);
        Check.due("meet(0, 1)", x.meet(0, 1), 2);
        Check.due("meet(1, 0)", x.meet(1, 0), 2);
        Check.due("meet(1, 1)", x.meet(1, 1), -1);
        Check.due("meet(0, 2)", x.meet(0, 2), -1);
        Check.due("meet(-1, 0)", x.meet(-1, 0), -1);
        x.step(false);
        Check.due("back(0), never", x.back(0), -1);
        Check.due("back(2)", x.back(2), -1);
        Check.due("back(-1)", x.back(-1), -1);
        Check.due("meet(0, 1)", x.meet(0, 1), 1);
        x.step(false);
        Check.due("meet(0, 1) now", x.meet(0, 1), 0);
        x.step(false);
        Check.due("meet(0, 1), never", x.meet(0, 1), -1);
        NightHouses y = Check.told("land 2 by 1;house a at 0 0;goes 2+(step>99)*2;");
        y.step(false);
        Check.due("back(0) behind 100", y.back(0), -1);
        y.step(false);
        Check.due("back(0) behind 99", y.back(0), 99);
        NightHouses z = Check.told("land 3 by 1;house a at 0 0;house b at 2 0;goes which*(step>98)*4;");
        Check.due("meet(0, 1) behind 101", z.meet(0, 1), -1);
        z.step(false);
        Check.due("meet(0, 1) behind 100", z.meet(0, 1), -1);
        z.step(false);
        Check.due("meet(0, 1) behind 99", z.meet(0, 1), 99);
    }

    private static void plan() {
        NightHouses x = Check.told("land 3 by 1;house a at 0 0;cat 0 0;calls 10;goes 2;");
        planned(x, 0, 0, 0, "");
        planned(x, 0, 1, 1, "1");
        planned(x, 0, 2, 1, "0 1");
        planned(x, 0, 3, 2, "0 1 1");
        planned(x, 0, 10, 2, "0 0 0 0 0 0 0 0 1 1");
        planned(x, 0, 11, -1, "");
        planned(x, 0, 1, 1, "1");
        planned(x, 0, -1, -1, "");
        planned(x, 0, 1, 1, "1");
        planned(x, 1, 1, -1, "");
        planned(x, -1, 1, -1, "");
        x.step(false);
        planned(x, 0, 0, -1, "");
        planned(x, 0, 1, 1, "1");
        x.plan(0, 1);
        Check.due("lies(0)", x.lies(0), 1);
        Check.due("lies(1)", x.lies(1), -1);
        Check.due("lies(-1)", x.lies(-1), -1);
        x.step(false);
        Check.due("it lies there still", x.lies(0), 1);
        NightHouses deaf = Check.told("land 3 by 1;house a at 0 0;cat 2 0;calls 0;goes 2;");
        planned(deaf, 0, 3, -1, "");
    }

    private static void planned(NightHouses x, int house, int n, int calls, String lying) {
        String call = "plan(" + house + ", " + n + ")";
        Check.due(call, x.plan(house, n), calls);
        Check.due(call + " lies [" + Check.lying(x) + "]", Check.lying(x).equals(lying), true);
    }

    private static void fence() {
        NightHouses x = Check.told(TOWARDS);
        fenced(x, 0, 1, 0, 0, "");
        fenced(x, 0, 1, 1, 0, "");
        fenced(x, 0, 1, 2, 1, "1");
        fenced(x, 1, 0, 20, 1, "1");
        fenced(x, 0, 1, 21, -1, "");
        fenced(x, 0, 1, 20, 1, "1");
        fenced(x, 0, 1, -1, -1, "");
        fenced(x, 0, 0, 2, -1, "");
        fenced(x, 0, 2, 2, -1, "");
        fenced(x, -1, 1, 2, -1, "");
        Check.due("about(3)", x.about(3), 0);
        NightHouses side = Check.told("land 2 by 1;house a at 0 0;house b at 1 0;goes which*4;");
        fenced(side, 0, 1, 0, 0, "");
        fenced(side, 0, 1, 1, -1, "");
        NightHouses same = Check.told("house a at 0 0;house b at 0 0;");
        fenced(same, 0, 1, 0, -1, "");
        NightHouses cat = Check.told("land 5 by 1;house a at 0 0;house b at 4 0;cat 1 0;calls 0;goes 2+which*2;");
        fenced(cat, 0, 1, 5, 1, "2");
        NightHouses last = Check.told("land 3 by 1;house a at 2 0;house b at 1 0;cat 2 0;calls 0;goes 4-which*(step>0)*2;");
        fenced(last, 0, 1, 2, 0, "");
        fenced(last, 0, 1, 1, 0, "");
        NightHouses zero = Check.told("land 3 by 2;house a at 1 0;house b at 0 1;cat 2 1;goes 4-which*3;");
        fenced(zero, 0, 1, 1, 1, "0");
    }

    private static void fenceOfTwo() {
        // b goes left, up, left, up ..: by either of two ways to where a stays
        String around = "land 2 by 2;house a at 0 0;house b at 1 1;cat 0 0;goes which*(4-step%2*3);";
        NightHouses x = Check.told(around);
        fenced(x, 0, 1, 1, 0, "");
        fenced(x, 0, 1, 2, 1, "2");
        fenced(x, 0, 1, 3, 2, "1 2");
        NightHouses more = Check.told("land 3 by 3;house a at 0 0;house b at 1 1;cat 0 0;goes which*(4-step%2*3);"
                + "hedge 2 0;hedge 2 1;hedge 2 2;hedge 0 2;hedge 1 2;");
        fenced(more, 0, 1, 20, 2, "1 3");
    }

    private static void fenced(NightHouses x, int house, int other, int n, int hedges, String lying) {
        String call = "fence(" + house + ", " + other + ", " + n + ")";
        Check.due(call, x.fence(house, other, n), hedges);
        Check.due(call + " lies [" + Check.lying(x) + "]", Check.lying(x).equals(lying), true);
    }

    private static void post() {
        NightHouses x = Check.told("land 3 by 1;house a at 1 0;cat 0 0;calls 0;goes 2;");
        Check.due("post(0, 0)", x.post(0, 0), 0);
        Check.due("post(0, 1)", x.post(0, 1), 1);
        Check.due("post(1, 0)", x.post(1, 0), 1);
        Check.due("post(1, 1)", x.post(1, 1), 1);
        Check.due("post(20, 0)", x.post(20, 0), 1);
        Check.due("post(21, 0)", x.post(21, 0), -1);
        Check.due("post(-1, 0)", x.post(-1, 0), -1);
        Check.due("post(1, 2)", x.post(1, 2), -1);
        Check.due("post(1, -1)", x.post(1, -1), -1);
        Check.due("the cat stays", x.about(4), 0);
        NightHouses y = Check.told("land 3 by 1;hedge 0 0;house a at 1 0;goes 0;");
        Check.due("not at a hedge", y.post(3, 0), 1);
    }

    private static void bell() {
        NightHouses x = Check.told("land 3 by 1;house a at 0 0;cat 0 0;calls 7;goes 2;");
        Check.due("bell(1, 0)", x.bell(1, 0), 0);
        Check.due("bell(1, 1)", x.bell(1, 1), 1);
        x.step(false);
        Check.due("bell(1, 0)", x.bell(1, 0), 1);
        Check.due("bell(1, 1)", x.bell(1, 1), 1);
        Check.due("bell(0, 0)", x.bell(0, 0), 0);
        Check.due("bell(0, 1)", x.bell(0, 1), 0);
        Check.due("bell(20, 0)", x.bell(20, 0), 1);
        Check.due("bell(21, 0)", x.bell(21, 0), -1);
        Check.due("bell(-1, 0)", x.bell(-1, 0), -1);
        Check.due("bell(1, 2)", x.bell(1, 2), -1);
        Check.due("bell(1, -1)", x.bell(1, -1), -1);
        Check.due("about(15)", x.about(15), 7);
        NightHouses far = Check.told("house a at 0 0;cat 0 0;goes 2+step%2;");
        for (int i = 0; i < 10; i++) {
            far.step(false);
        }
        Check.due("at 5 5", far.house(0, 0), 35);
        Check.due("bell(10, 0)", far.bell(10, 0), 10);
        Check.due("bell(9, 1)", far.bell(9, 1), 0);
    }

    private static void chase() {
        NightHouses x = Check.told("house a at 0 0;cat 1 0;");
        Check.due("chase(0, 1, 0)", x.chase(0, 1, 0), 1);
        Check.due("chase(0, 1, 1)", x.chase(0, 1, 1), 3);
        Check.due("chase(0, 3, 0)", x.chase(0, 3, 0), 1);
        Check.due("chase(0, 0, 0)", x.chase(0, 0, 0), -1);
        Check.due("chase(0, 4, 0)", x.chase(0, 4, 0), -1);
        Check.due("chase(0, 1, 2)", x.chase(0, 1, 2), -1);
        Check.due("chase(0, 1, -1)", x.chase(0, 1, -1), -1);
        Check.due("chase(1, 1, 0)", x.chase(1, 1, 0), -1);
        Check.due("chase(-1, 1, 0)", x.chase(-1, 1, 0), -1);
        NightHouses row = Check.told("land 6 by 1;house a at 2 0;cat 0 0;");
        Check.due("along a row: chase(0, 3, 0)", row.chase(0, 3, 0), 2);
        Check.due("along a row: chase(0, 3, 1)", row.chase(0, 3, 1), 2);
        NightHouses end = Check.told("land 3 by 1;house a at 2 0;cat 0 0;");
        Check.due("at the land's end: chase(0, 1, 0)", end.chase(0, 1, 0), 1);
        Check.due("of like ways the least", end.chase(0, 1, 1), 0);
        NightHouses corner = Check.told("land 2 by 2;house a at 0 0;cat 1 1;");
        Check.due("around and around: chase(0, 1, 0)", corner.chase(0, 1, 0), 1);
        Check.due("around and around: chase(0, 2, 0)", corner.chase(0, 2, 0), 1);
        NightHouses gap = Check.told("land 4 by 2;hedge 1 0;hedge 2 0;house a at 3 0;cat 0 0;");
        Check.due("round the hedges: chase(0, 1, 0)", gap.chase(0, 1, 0), 3);
        Check.due("round the hedges: chase(0, 1, 1)", gap.chase(0, 1, 1), 0);
        NightHouses hedged = Check.told("land 3 by 1;hedge 1 0;house a at 2 0;cat 0 0;");
        Check.due("behind a hedge: chase(0, 3, 0)", hedged.chase(0, 3, 0), 2);
    }

    private static void countsAhead() {
        NightHouses x = Check.told(TOWARDS);
        Check.due("haunt(1)", x.haunt(1), 1);
        Check.due("haunt(2)", x.haunt(2), 2);
        Check.due("haunt(60)", x.haunt(60), 0);
        Check.due("haunt(0)", x.haunt(0), -1);
        Check.due("haunt(61)", x.haunt(61), -1);
        Check.due("gather(0)", x.gather(0), 0);
        Check.due("gather(1)", x.gather(1), 1);
        Check.due("gather(2)", x.gather(2), 2);
        Check.due("gather(60)", x.gather(60), 0);
        Check.due("gather(61)", x.gather(61), -1);
        Check.due("gather(-1)", x.gather(-1), -1);
        Check.due("stray(0, 0)", x.stray(0, 0), 0);
        Check.due("stray(1, 3)", x.stray(1, 3), 3);
        Check.due("stray(1, 60)", x.stray(1, 60), 4);
        Check.due("stray(1, 61)", x.stray(1, 61), -1);
        Check.due("stray(1, -1)", x.stray(1, -1), -1);
        Check.due("stray(2, 1)", x.stray(2, 1), -1);
        Check.due("stray(-1, 1)", x.stray(-1, 1), -1);
        Check.due("homely(0, false)", x.homely(0, false), 2);
        Check.due("homely(1, false)", x.homely(1, false), 0);
        Check.due("homely(1, true)", x.homely(1, true), 1);
        Check.due("homely(60, true)", x.homely(60, true), 1);
        Check.due("homely(61, true)", x.homely(61, true), -1);
        Check.due("homely(-1, true)", x.homely(-1, true), -1);
        Check.due("quarrels(0)", x.quarrels(0), 0);
        Check.due("quarrels(1)", x.quarrels(1), 0);
        Check.due("quarrels(2)", x.quarrels(2), 2);
        Check.due("quarrels(60)", x.quarrels(60), 2);
        Check.due("quarrels(61)", x.quarrels(61), -1);
        Check.due("quarrels(-1)", x.quarrels(-1), -1);
        Check.due("nothing is done", x.about(5) + x.house(0, 0) + x.house(0, 2), 0);
        NightHouses y = Check.told("land 3 by 1;house a at 0 0;goes 2+step%2*2;");
        y.step(false);
        Check.due("stray(0, 0) counts that now", y.stray(0, 0), 1);
        Check.due("haunt(1) does not count that now", y.haunt(1), 0);
    }

    private static void nothingThere() {
        NightHouses x = new NightHouses();
        Check.due("will(0, 0, 0)", x.will(0, 0, 0), -1);
        Check.due("back(0)", x.back(0), -1);
        Check.due("meet(0, 1)", x.meet(0, 1), -1);
        Check.due("haunt(1)", x.haunt(1), -1);
        Check.due("gather(0)", x.gather(0), -1);
        Check.due("post(20, 0)", x.post(20, 0), 0);
        Check.due("post(20, 1)", x.post(20, 1), 0);
        Check.due("bell(20, 0)", x.bell(20, 0), 0);
        Check.due("bell(20, 1)", x.bell(20, 1), 0);
        Check.due("homely(60, true)", x.homely(60, true), 0);
        Check.due("quarrels(60)", x.quarrels(60), 0);
        Check.due("lies(0)", x.lies(0), -1);
    }
}
