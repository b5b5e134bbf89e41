/**
 * Part 3 of the document and promises 15 to 20, 22, 24, 25, 27, 30, 33 and 35, what would come: each sentence that
 * names an edge, with a test of its own.
 */
public final class AheadEdgesTest {
    private static final int LEAST = Integer.MIN_VALUE;
    private static final int MOST = Integer.MAX_VALUE;
    private static final int[] NOT_TWO = {2, -1, 3, MOST, LEAST};
    private static final int[] NOT_20 = {21, -1, 22, MOST, LEAST};
    private static final int[] NOT_60 = {61, -1, 62, MOST, LEAST};
    /** Numbers of houses that are not there, when there are two. */
    private static final int[] NO_HOUSE = {2, -1, 4, 5, 32, MOST, LEAST};
    /** Two that go towards one another along a row. */
    private static final String TOWARDS = "land 5 by 1;house a at 0 0;house b at 4 0;cat 0 0;calls 0;goes 2+which*2;";

    public static void main(String[] args) {
        calm();
        beyond999();
        will();
        willRefused();
        back();
        meet();
        meetRefused();
        planFewest();
        planEdges();
        planRefused();
        fenceFewest();
        fenceWhere();
        fenceFirst();
        fenceHowLong();
        fenceRefused();
        post();
        postEdges();
        chase();
        chaseRefused();
        haunt();
        stray();
        gather();
        bell();
        homely();
        quarrels();
        Check.finish();
    }

    private static void calm() {
        Check.sentence("(By what is now; nothing is done; no gales, if not told otherwise; no CALLS, if not told otherwise; the cat stays where she is, if not told otherwise.");
        String calm = "land 6 by 1;house a at 0 0;house b at 5 0;cat 2 0;calls 10;goes 2+which*2;";
        NightHouses x = Check.told(calm + "gale 100;");
        x.walk(2);
        x.dawn();
        x.undo();
        x.undo();
        String before = Sight.of(x);
        asks(Check.told(calm), x);
        x.plan(-1, 0);
        Check.due("nothing is done", Sight.of(x), before);
        Check.due("no calls: they pass by one another", x.will(0, 5, 0) * 10 + x.will(1, 5, 0), 50);
        Check.due("calls: they come to her", x.will(0, 5, 2) * 10 + x.will(1, 5, 2), 22);
        NightHouses y = Check.told(calm);
        y.walk(2);
        Check.due("to where she is now", y.will(0, 5, 2) * 10 + y.will(1, 5, 2), 33);
        calmInGales();
    }

    /** Lands in which each gale that was not told of would show. */
    private static void calmInGales() {
        NightHouses two = Check.told(TOWARDS + "gale 100;");
        Check.due("meet", two.meet(0, 1), 2);
        Check.due("quarrels(1)", two.quarrels(1), 0);
        Check.due("quarrels(2)", two.quarrels(2), 2);
        Check.due("haunt(1)", two.haunt(1), 1);
        Check.due("gather(1)", two.gather(1), 1);
        Check.due("stray(1, 1)", two.stray(1, 1), 1);
        fenced(two, 0, 1, 1, 0, "");
        fenced(two, 0, 1, 2, 1, "1");
        NightHouses home = Check.told("land 6 by 1;house a at 3 0;cat 3 0;calls 1;goes 4;gale 100;");
        Check.due("will(0, 1, 0)", home.will(0, 1, 0), 2);
        Check.due("will(0, 1, 2)", home.will(0, 1, 2), 3);
        Check.due("post(1, 0)", home.post(1, 0), 3);
        Check.due("post(1, 1)", home.post(1, 1), 1);
        Check.due("bell(1, 0)", home.bell(1, 0), 0);
        Check.due("bell(1, 1)", home.bell(1, 1), 1);
        Check.due("homely(1, true)", home.homely(1, true), 1);
        planned(home, 0, 1, 1, "1");
        NightHouses back = Check.told("land 6 by 1;house a at 0 0;goes 2+(step>0)*2;gale 100;");
        back.step(false);
        Check.due("a gale took it", back.house(0, 0), 2);
        Check.due("back", back.back(0), 2);
    }

    private static void asks(NightHouses x, NightHouses y) {
        for (int house = 0; house < 2; house++) {
            Check.due("back", y.back(house), x.back(house));
            Check.due("meet", y.meet(house, 1 - house), x.meet(house, 1 - house));
            for (int n = 0; n <= 10; n++) {
                Check.due("will", y.will(house, n, 0), x.will(house, n, 0));
                Check.due("will with calls", y.will(house, n, 2), x.will(house, n, 2));
                Check.due("plan", y.plan(house, n), x.plan(house, n));
                Check.due("fence", y.fence(house, 1 - house, n), x.fence(house, 1 - house, n));
                Check.due("stray", y.stray(house, n), x.stray(house, n));
            }
        }
        for (int n = 0; n <= 10; n++) {
            Check.due("post", y.post(n, 0), x.post(n, 0));
            Check.due("haunt", y.haunt(n), x.haunt(n));
            Check.due("gather", y.gather(n), x.gather(n));
            Check.due("bell", y.bell(n, 0), x.bell(n, 0));
            Check.due("homely", y.homely(n, true), x.homely(n, true));
            Check.due("quarrels", y.quarrels(n), x.quarrels(n));
        }
    }

    private static void beyond999() {
        Check.sentence("The step goes on beyond 999, too.)");
        NightHouses x = Check.told("land 3 by 1;house a at 0 0;house b at 0 0;goes (step>999)*which*2;");
        for (int i = 0; i < 999; i++) {
            x.step(false);
        }
        Check.due("step", x.step(false), -1);
        Check.due("will(1, 1, 0)", x.will(1, 1, 0), 0);
        Check.due("will(1, 2, 0)", x.will(1, 2, 0), 1);
        Check.due("will(1, 3, 0)", x.will(1, 3, 0), 2);
        Check.due("stray(1, 60)", x.stray(1, 60), 2);
        Check.due("haunt(60)", x.haunt(60), 0);
        Check.due("gather(60)", x.gather(60), 0);
        Check.due("homely(60, false)", x.homely(60, false), 1);
    }

    private static void will() {
        Check.sentence("The CELL of a HOUSE behind n STEPS (0 .. 60); gales as the SEED tells (what 1), none (0), a CALL in each (2);");
        NightHouses x = Check.told("land 6 by 1;house a at 0 0;house b at 5 0;goes (step=59)*(2+which*2);cat 3 0;calls 2;gale 100;");
        Check.due("will(0, 0, 0)", x.will(0, 0, 0), 0);
        Check.due("will(1, 0, 1)", x.will(1, 0, 1), 5);
        Check.due("will(0, 0, 2)", x.will(0, 0, 2), 0);
        Check.due("will(0, 59, 0)", x.will(0, 59, 0), 0);
        Check.due("will(0, 60, 0)", x.will(0, 60, 0), 1);
        Check.due("will(1, 60, 0)", x.will(1, 60, 0), 4);
        Check.due("will(0, 60, 1)", x.will(0, 60, 1), 2);
        Check.due("will(1, 60, 1)", x.will(1, 60, 1), 3);
        Check.due("will(1, 1, 2)", x.will(1, 1, 2), 4);
        Check.due("will(1, 2, 2)", x.will(1, 2, 2), 3);
        Check.due("will(1, 60, 2)", x.will(1, 60, 2), 3);
        Check.due("will(0, 60, 2)", x.will(0, 60, 2), 1);
        NightHouses y = Check.told("land 6 by 6;house a at 2 3;house b at 4 4;house c at 0 5;goes step*3+column+which*2+tilt;gale 40;draw 77;");
        for (int n = 1; n <= 20; n++) {
            int a = y.will(0, 3, 1);
            int b = y.will(1, 3, 1);
            int c = y.will(2, 3, 1);
            y.step(false);
            y.step(false);
            y.step(false);
            Check.due("as the seed tells, " + n, y.house(0, 0) * 10000 + y.house(1, 0) * 100 + y.house(2, 0), a * 10000 + b * 100 + c);
        }
    }

    private static void willRefused() {
        Check.sentence("a CALL in each (2); NONE if one can't be.");
        NightHouses x = Check.told(TOWARDS);
        for (int house : NO_HOUSE) {
            Check.refused(x, "will(" + house + ", 1, 0)", () -> x.will(house, 1, 0));
        }
        for (int n : NOT_60) {
            for (int what = 0; what < 3; what++) {
                int each = what;
                Check.refused(x, "will(0, " + n + ", " + what + ")", () -> x.will(0, n, each));
            }
        }
        for (int what : new int[] {3, -1, 4, MOST, LEAST}) {
            Check.refused(x, "will(0, 1, " + what + ")", () -> x.will(0, 1, what));
            Check.refused(x, "will(0, 0, " + what + ")", () -> x.will(0, 0, what));
        }
        Check.due("without houses", new NightHouses().will(0, 0, 0), -1);
    }

    private static void back() {
        Check.sentence("BACK (0 .. 99); NONE if not in these, or there is none such.");
        NightHouses x = Check.told("land 2 by 1;house a at 0 0;house b at 0 0;goes 2+(step>99)*2;");
        Check.due("at home", x.back(0), 0);
        x.step(false);
        Check.due("behind 100", x.back(0), -1);
        x.step(false);
        Check.due("behind 99", x.back(0), 99);
        Check.due("the other one", x.back(1), 99);
        x.step(false);
        Check.due("behind 98", x.back(0), 98);
        for (int house : NO_HOUSE) {
            Check.refused(x, "back(" + house + ")", () -> x.back(house));
        }
        NightHouses never = Check.told("land 2 by 1;house a at 0 0;goes 2;");
        never.step(false);
        Check.due("never", never.back(0), -1);
        NightHouses soon = Check.told("land 3 by 1;house a at 0 0;goes 2+step%2*2;");
        soon.step(false);
        Check.due("the first time", soon.back(0), 1);
    }

    private static void meet() {
        Check.sentence("MEET (0 .. 99); NONE if not in these,");
        NightHouses x = Check.told(TOWARDS);
        Check.due("behind 2", x.meet(0, 1), 2);
        Check.due("the other way round", x.meet(1, 0), 2);
        x.step(false);
        x.step(false);
        Check.due("now", x.meet(0, 1), 0);
        x.step(false);
        Check.due("no more", x.meet(0, 1), -1);
        NightHouses late = Check.told("land 2 by 1;house a at 0 0;house b at 1 0;goes which*(step>99)*4;");
        Check.due("behind 101", late.meet(0, 1), -1);
        late.step(false);
        Check.due("behind 100", late.meet(0, 1), -1);
        late.step(false);
        Check.due("behind 99", late.meet(0, 1), 99);
        NightHouses pass = Check.told("land 2 by 1;house a at 0 0;house b at 1 0;goes (step<1)*(2+which*2);");
        Check.due("who pass one another do not meet", pass.meet(0, 1), -1);
    }

    private static void meetRefused() {
        Check.sentence("both are one, or one can't be. ## Promise 18");
        NightHouses x = Check.told("house a at 0 0;house b at 0 0;");
        Check.refused(x, "meet(0, 0)", () -> x.meet(0, 0));
        Check.refused(x, "meet(1, 1)", () -> x.meet(1, 1));
        for (int house : NO_HOUSE) {
            Check.refused(x, "meet(0, " + house + ")", () -> x.meet(0, house));
            Check.refused(x, "meet(" + house + ", 0)", () -> x.meet(house, 0));
            Check.refused(x, "meet(" + house + ", " + house + ")", () -> x.meet(house, house));
        }
        Check.due("without houses", new NightHouses().meet(0, 1), -1);
        Check.due("of one", Check.told("house a at 0 0;").meet(0, 1), -1);
    }

    private static void planned(NightHouses x, int house, int n, int calls, String lying) {
        String call = "plan(" + house + ", " + n + ")";
        Check.due(call, x.plan(house, n), calls);
        Check.due(call + " lies", Check.lying(x), lying);
        Check.due("about(14) behind " + call, x.about(14), calls < 0 ? 0 : n);
    }

    private static void planFewest() {
        Check.sentence("PLAN of a HOUSE for n STEPS: in which of these the cat should CALL so that it is at HOME behind them: the fewest CALLS; of like ones the first (STEP by STEP: no CALL ahead).");
        NightHouses x = Check.told("land 4 by 1;house a at 3 0;cat 3 0;calls 2;goes (step<2)*4;");
        planned(x, 0, 4, 1, "0 1 0 0");
        planned(x, 0, 3, 1, "0 1 0");
        planned(x, 0, 2, 1, "0 1");
        planned(x, 0, 1, 1, "1");
        NightHouses y = Check.told("land 3 by 1;house a at 0 0;cat 0 0;calls 10;goes 2;");
        planned(y, 0, 3, 2, "0 1 1");
        planned(y, 0, 10, 2, "0 0 0 0 0 0 0 0 1 1");
        NightHouses still = Check.told("land 3 by 1;house a at 0 0;cat 0 0;calls 10;");
        planned(still, 0, 5, 0, "0 0 0 0 0");
        NightHouses other = Check.told("land 3 by 1;house b at 2 0;house a at 0 0;cat 0 0;calls 0;goes which*2;");
        planned(other, 1, 2, 2, "1 1");
        planned(other, 0, 2, 0, "0 0");
    }

    private static void planEdges() {
        Check.sentence("PLAN (n 0 .. 10): how many CALLS;");
        NightHouses x = Check.told("land 3 by 1;house a at 0 0;cat 0 0;calls 10;goes 2;");
        planned(x, 0, 0, 0, "");
        planned(x, 0, 10, 2, "0 0 0 0 0 0 0 0 1 1");
        NightHouses five = Check.told("land 3 by 1;house a at 2 0;house b at 2 0;house c at 2 0;house d at 2 0;house e at 0 0;"
                + "cat 0 0;calls 0;goes (which=4)*2;");
        planned(five, 4, 2, 2, "1 1");
        NightHouses deaf = Check.told("land 3 by 1;house a at 2 0;house b at 2 0;house c at 2 0;house d at 2 0;house e at 1 0;"
                + "cat 0 0;calls 0;goes (which=4)*2;");
        planned(deaf, 4, 2, -1, "");
        NightHouses all = Check.told("land 3 by 1;house a at 0 0;cat 0 0;calls 0;goes 2;");
        planned(all, 0, 10, 10, "1 1 1 1 1 1 1 1 1 1");
        planned(all, 0, 1, 1, "1");
    }

    private static void planRefused() {
        Check.sentence("NONE if none does it, or one can't be. For each STEP 1 if she CALLS, else 0 lies there then (behind NONE: nothing).");
        NightHouses x = Check.told("land 3 by 1;house a at 0 0;house b at 2 0;cat 2 0;calls 0;goes 2;");
        planned(x, 0, 3, -1, "");
        planned(x, 1, 3, 0, "0 0 0");
        for (int n : new int[] {11, -1, 12, MOST, LEAST}) {
            planned(x, 1, 2, 0, "0 0");
            planned(x, 1, n, -1, "");
        }
        for (int house : NO_HOUSE) {
            planned(x, 1, 2, 0, "0 0");
            planned(x, house, 2, -1, "");
        }
        planned(x, 1, 2, 0, "0 0");
        planned(x, 0, 1, -1, "");
        planned(new NightHouses(), 0, 0, -1, "");
        x.step(false);
        planned(x, 0, 0, -1, "");
        planned(x, 1, 4, 0, "0 0 0 0");
        x.step(false);
        x.undo();
        x.dawn();
        Check.due("it lies there still", Check.lying(x), "0 0 0 0");
    }

    private static void fenced(NightHouses x, int house, int other, int n, int hedges, String lying) {
        String call = "fence(" + house + ", " + other + ", " + n + ")";
        Check.due(call, x.fence(house, other, n), hedges);
        Check.due(call + " lies", Check.lying(x), lying);
        Check.due("about(14) behind " + call, x.about(14), Math.max(hedges, 0));
    }

    private static void fenceFewest() {
        Check.sentence("FENCE of two for n STEPS: the fewest hedges more (2 at most,");
        NightHouses x = Check.told("land 2 by 2;house a at 0 0;house b at 1 1;cat 0 0;goes which*(4-step%2*3);");
        fenced(x, 0, 1, 1, 0, "");
        fenced(x, 0, 1, 2, 1, "2");
        fenced(x, 0, 1, 3, 2, "1 2");
        fenced(x, 1, 0, 20, 2, "1 2");
        // hedges at all three cells beside a would do: with one there already two do, with none two do not
        NightHouses three = Check.told("land 3 by 3;house a at 1 0;house b at 2 1;cat 1 0;goes which*(1+(step*step*3+step/3*5)%4);");
        fenced(three, 0, 1, 20, -1, "");
        three.hedge(0);
        Check.due("two more", three.fence(0, 1, 20), 2);
        three.hedge(2);
        fenced(three, 0, 1, 20, 1, "4");
        three.hedge(4);
        fenced(three, 0, 1, 20, 0, "");
        NightHouses side = Check.told("land 2 by 1;house a at 0 0;house b at 1 0;goes which*4;");
        fenced(side, 0, 1, 0, 0, "");
        fenced(side, 0, 1, 1, -1, "");
    }

    private static void fenceWhere() {
        Check.sentence("at CELLS without HOUSE, cat, hedge now, however many there are)");
        fenced(Check.told(TOWARDS), 0, 1, 20, 1, "1");
        fenced(Check.told("land 5 by 2;house a at 0 1;house b at 0 1;house c at 0 1;house d at 0 0;house e at 4 0;cat 0 0;"
                + "goes (which>2)*(2+(which=4)*2);"), 3, 4, 20, 1, "1");
        fenced(Check.told("land 5 by 1;house a at 0 0;house b at 4 0;cat 1 0;goes 2+which*2;"), 0, 1, 20, 1, "2");
        fenced(Check.told("land 5 by 1;house a at 0 0;house b at 4 0;house c at 1 0;cat 2 0;goes (which<2)*(2+which*2);"), 0, 1, 20, 1, "3");
        fenced(Check.told("land 5 by 1;house a at 0 0;house b at 4 0;house c at 1 0;house d at 3 0;cat 2 0;goes (which<2)*(2+which*2);"),
                0, 1, 20, -1, "");
        NightHouses full = Check.told("land 6 by 4;house a at 0 0;house b at 4 0;cat 0 0;goes 2+which*2;hedge 0 1;hedge 1 1;"
                + "hedge 2 1;hedge 3 1;hedge 4 1;hedge 5 1;hedge 0 2;hedge 1 2;");
        for (int i = 0; i < 4; i++) {
            full.hedge(18 + i);
        }
        Check.due("12 hedges", full.about(3), 12);
        Check.due("no more by hand", full.hedge(1), -1);
        fenced(full, 0, 1, 20, 1, "1");
        NightHouses two = Check.told("land 6 by 4;house a at 0 0;house b at 1 1;cat 0 0;goes which*(4-step%2*3);"
                + "hedge 2 1;hedge 0 2;hedge 1 2;hedge 2 2;hedge 3 2;hedge 4 2;hedge 5 2;hedge 0 3;");
        for (int i = 1; i <= 4; i++) {
            two.hedge(18 + i);
        }
        Check.due("12 hedges", two.about(3), 12);
        fenced(two, 0, 1, 3, 2, "1 6");
        Check.due("nothing is done", two.about(3) + two.about(8), 16);
    }

    private static void fenceFirst() {
        Check.sentence("so that they MEET behind none of n STEPS (0 STEPS, too); of like ones the first (CELL by CELL).");
        fenced(Check.told("house a at 0 0;house b at 0 0;goes 2+which*2;"), 0, 1, 0, -1, "");
        fenced(Check.told("house a at 0 0;house b at 0 0;goes which*2;"), 0, 1, 3, -1, "");
        fenced(Check.told("land 3 by 2;house a at 1 0;house b at 0 1;cat 2 1;goes 4-which*3;"), 0, 1, 1, 1, "0");
        // hedges at 1, at 2 and at 3 do alike
        fenced(Check.told(TOWARDS), 0, 1, 2, 1, "1");
        // b comes along the second row, then up: hedges at 4, 5 or 6 alone do
        NightHouses x = Check.told("land 4 by 2;house a at 0 0;house b at 3 1;cat 3 0;goes which*((column>0)*4+(column=0));");
        fenced(x, 0, 1, 3, 0, "");
        fenced(x, 0, 1, 4, 1, "4");
        // b goes left and up in turns: round 2 it would come by 1, so that 2 alone does not do
        NightHouses pair = Check.told("land 2 by 2;house a at 0 0;house b at 1 1;cat 0 0;goes which*(4-step%2*3);");
        fenced(pair, 0, 1, 4, 2, "1 2");
        NightHouses first = Check.told("land 2 by 2;house a at 1 0;house b at 0 1;cat 1 0;goes which*(1+step%2);");
        fenced(first, 0, 1, 2, 1, "0");
        fenced(first, 0, 1, 3, 2, "0 3");
    }

    private static void fenceHowLong() {
        Check.sentence("FENCE (n 0 .. 20): how many hedges (0: none is needed);");
        NightHouses x = Check.told("land 4 by 1;house a at 0 0;house b at 3 0;cat 0 0;goes which*(step>16)*4;");
        fenced(x, 0, 1, 19, 0, "");
        fenced(x, 0, 1, 20, 1, "1");
        x.step(false);
        fenced(x, 0, 1, 18, 0, "");
        fenced(x, 0, 1, 19, 1, "1");
        fenced(Check.told(TOWARDS), 0, 1, 0, 0, "");
        fenced(Check.told(TOWARDS), 0, 1, 1, 0, "");
        fenced(Check.told(TOWARDS), 0, 1, 2, 1, "1");
    }

    private static void fenceRefused() {
        Check.sentence("NONE if 2 are not enough, both are one, or one can't be. CELLS lie there then (behind NONE: nothing).");
        NightHouses x = Check.told(TOWARDS);
        for (int n : NOT_20) {
            fenced(x, 0, 1, 20, 1, "1");
            fenced(x, 0, 1, n, -1, "");
        }
        for (int house : NO_HOUSE) {
            fenced(x, 0, 1, 20, 1, "1");
            fenced(x, 0, house, 3, -1, "");
            fenced(x, 0, 1, 20, 1, "1");
            fenced(x, house, 0, 3, -1, "");
        }
        fenced(x, 0, 1, 20, 1, "1");
        fenced(x, 0, 0, 3, -1, "");
        fenced(x, 0, 1, 20, 1, "1");
        fenced(x, 1, 1, 3, -1, "");
        fenced(x, 0, 1, 20, 1, "1");
        fenced(x, 0, 1, 1, 0, "");
        fenced(new NightHouses(), 0, 1, 0, -1, "");
        NightHouses three = Check.told("land 3 by 3;house a at 1 1;house b at 2 2;cat 1 1;calls 0;goes which*((step%2=0)*4+(step%2=1)*1);");
        fenced(three, 0, 1, 2, 1, "7");
        fenced(three, 0, 1, 3, 2, "5 7");
        NightHouses not = Check.told("land 3 by 3;house a at 1 1;house b at 2 1;cat 0 0;calls 0;goes which*4;");
        fenced(not, 0, 1, 1, -1, "");
    }

    private static void post() {
        Check.sentence("POST for n STEPS: the CELL (without a hedge) where she should stand and CALL in each of them so that most HOUSES are at HOME behind them; of like ones the first.");
        NightHouses x = Check.told("land 4 by 1;house a at 3 0;cat 0 0;calls 1;goes 4;");
        Check.due("post(1, 0)", x.post(1, 0), 3);
        Check.due("post(1, 1)", x.post(1, 1), 1);
        x.step(false);
        Check.due("from 2: post(1, 0)", x.post(1, 0), 3);
        x.step(false);
        Check.due("from 1, not in one: post(1, 0)", x.post(1, 0), 0);
        Check.due("from 1, not in one: post(1, 1)", x.post(1, 1), 0);
        Check.due("from 1, not heard: post(2, 1)", x.post(2, 1), 0);
        NightHouses hedged = Check.told("land 4 by 1;hedge 0 0;hedge 1 0;house a at 2 0;cat 3 0;");
        Check.due("without a hedge", hedged.post(3, 0), 2);
        NightHouses most = Check.told("land 5 by 1;house a at 0 0;house b at 4 0;house c at 4 0;cat 2 0;calls 1;goes 2+(which>0)*2;");
        Check.due("where most are at home", most.post(1, 0), 4);
        Check.due("how many", most.post(1, 1), 2);
        NightHouses like = Check.told("land 5 by 1;house a at 1 0;house b at 3 0;cat 2 0;calls 0;goes 2;");
        Check.due("of like ones the first", like.post(1, 0), 1);
        Check.due("of like ones how many", like.post(1, 1), 1);
        Check.due("she stays where she is", like.about(4), 2);
    }

    private static void postEdges() {
        Check.sentence("POST (n 0 .. 20) what 0: the CELL, 1: how many are at HOME then; NONE if one can't be.");
        NightHouses x = Check.told("land 4 by 1;hedge 0 0;house a at 3 0;house b at 3 0;cat 2 0;calls 1;goes (step>18)*4;");
        Check.due("post(0, 0)", x.post(0, 0), 1);
        Check.due("post(0, 1)", x.post(0, 1), 2);
        Check.due("post(19, 0)", x.post(19, 0), 1);
        Check.due("post(19, 1)", x.post(19, 1), 2);
        Check.due("post(20, 0)", x.post(20, 0), 3);
        Check.due("post(20, 1)", x.post(20, 1), 2);
        for (int what = 0; what < 2; what++) {
            int each = what;
            for (int n : NOT_20) {
                Check.refused(x, "post(" + n + ", " + what + ")", () -> x.post(n, each));
            }
        }
        for (int what : NOT_TWO) {
            Check.refused(x, "post(1, " + what + ")", () -> x.post(1, what));
        }
        Check.due("without houses: post(20, 0)", new NightHouses().post(20, 0), 0);
        Check.due("without houses: post(20, 1)", new NightHouses().post(20, 1), 0);
        NightHouses all = Check.told("land 1 by 1;hedge 0 0;");
        Check.due("without a cell: post(1, 0)", all.post(1, 0), -1);
        Check.due("without a cell: post(1, 1)", all.post(1, 1), -1);
    }

    private static void chased(String text, int n, int far, int way) {
        NightHouses x = Check.told(text);
        Check.due("chase(0, " + n + ", 0) of " + text, x.chase(0, n, 0), far);
        Check.due("chase(0, " + n + ", 1) of " + text, x.chase(0, n, 1), way);
    }

    private static void chase() {
        Check.sentence("CHASE of a HOUSE for n turns: in each the HOUSE goes some way (as it likes), then the cat; at the end it wants to be as FAR from her as can be, she to be as near; of like ways the least.");
        chased("land 6 by 1;house a at 2 0;cat 0 0;goes 4;", 1, 2, 2);
        chased("land 6 by 1;house a at 2 0;cat 0 0;goes 4;", 2, 2, 2);
        chased("land 6 by 1;house a at 2 0;cat 0 0;goes 4;", 3, 2, 2);
        chased("land 6 by 1;house a at 2 0;cat 3 0;", 1, 1, 4);
        chased("land 3 by 1;house a at 2 0;cat 0 0;", 1, 1, 0);
        chased("land 3 by 1;house a at 2 0;cat 0 0;", 2, 0, 0);
        chased("land 1 by 1;house a at 0 0;cat 0 0;", 3, 0, 0);
        chased("land 3 by 1;hedge 1 0;house a at 2 0;cat 0 0;", 3, 2, 0);
        for (int n = 1; n <= 3; n++) {
            chased("land 6 by 6;house a at 5 5;cat 0 0;", n, 10 - n, 0);
            chased("land 6 by 6;house a at 0 5;cat 5 0;", n, 10 - n, 0);
            chased("land 6 by 6;house a at 5 0;cat 0 5;", n, 10 - n, 0);
            chased("land 6 by 6;house a at 0 0;cat 5 5;", n, 10 - n, 0);
        }
        chased("land 6 by 6;house a at 2 2;cat 2 3;", 1, 1, 1);
        chased("land 6 by 6;house a at 2 2;cat 2 2;", 1, 0, 0);
        chased("land 1 by 6;house a at 0 3;cat 0 5;", 1, 2, 1);
        chased("land 1 by 6;house a at 0 3;cat 0 1;", 1, 2, 3);
        chased("land 2 by 2;hedge 0 0;house a at 1 0;cat 0 1;", 1, 1, 0);
        // her hedge holds her: a stays farther by going on alone
        chased("land 5 by 1;hedge 1 0;house a at 2 0;cat 0 0;", 1, 3, 2);
        chased("land 5 by 1;hedge 1 0;house a at 2 0;cat 0 0;", 2, 4, 2);
        chased("land 5 by 1;hedge 1 0;house a at 2 0;cat 0 0;", 3, 4, 0);
    }

    private static void chaseRefused() {
        Check.sentence("CHASE (n 1 .. 3) what 0: how FAR then, 1: the way the HOUSE begins; NONE if one can't be.");
        NightHouses x = Check.told("house a at 0 0;house b at 5 5;cat 3 3;");
        Check.due("the second one", x.chase(1, 1, 0), 3);
        for (int what = 0; what < 2; what++) {
            int each = what;
            for (int n : new int[] {0, 4, -1, 5, MOST, LEAST}) {
                Check.refused(x, "chase(0, " + n + ", " + what + ")", () -> x.chase(0, n, each));
            }
            for (int house : NO_HOUSE) {
                Check.refused(x, "chase(" + house + ", 1, " + what + ")", () -> x.chase(house, 1, each));
            }
        }
        for (int what : NOT_TWO) {
            Check.refused(x, "chase(0, 1, " + what + ")", () -> x.chase(0, 1, what));
        }
        for (int n = 1; n <= 3; n++) {
            int each = n;
            Check.still(x, "chase(1, " + n + ", 0)", () -> x.chase(1, each, 0), 4 - n);
        }
    }

    private static void haunt() {
        Check.sentence("HAUNT for n STEPS: the CELL at which HOUSES are oftenest behind these (each HOUSE, each STEP counted, that now does not count); of like ones the first.");
        NightHouses x = Check.told(TOWARDS);
        Check.due("a at 1, b at 3: haunt(1)", x.haunt(1), 1);
        Check.due("both at 2: haunt(2)", x.haunt(2), 2);
        Check.due("0 and 4 often: haunt(60)", x.haunt(60), 0);
        NightHouses y = Check.told("land 3 by 1;house a at 0 0;goes (step=0)*2+(step=1)*2;");
        Check.due("that now does not count: haunt(1)", y.haunt(1), 1);
        Check.due("of like ones the first: haunt(2)", y.haunt(2), 1);
        Check.due("each step: haunt(3)", y.haunt(3), 2);
        NightHouses z = Check.told("land 3 by 1;house a at 0 0;house b at 2 0;house c at 2 0;");
        Check.due("each house: haunt(1)", z.haunt(1), 2);
        Check.sentence("HAUNT (n 1 .. 60); NONE without HOUSES, or for another n.");
        NightHouses late = Check.told("land 3 by 1;house a at 0 0;goes (step=29)*2;");
        Check.due("29 at 0, 30 at 1: haunt(59)", late.haunt(59), 1);
        Check.due("29 at 0, 29 at 1: haunt(58)", late.haunt(58), 0);
        NightHouses last = Check.told("land 3 by 1;house a at 1 0;goes (step=30)*2+(step=59)*4;");
        Check.due("30 at 1, 29 at 2: haunt(59)", last.haunt(59), 1);
        Check.due("31 at 1: haunt(60)", last.haunt(60), 1);
        NightHouses tie = Check.told("land 3 by 1;house a at 1 0;goes (step=30)*4;");
        Check.due("30 at 1, 29 at 0: haunt(59)", tie.haunt(59), 1);
        Check.due("30 at 1, 30 at 0: haunt(60)", tie.haunt(60), 0);
        for (int n : new int[] {0, 61, -1, 62, MOST, LEAST}) {
            Check.refused(x, "haunt(" + n + ")", () -> x.haunt(n));
        }
        Check.due("without houses: haunt(1)", new NightHouses().haunt(1), -1);
        Check.due("without houses: haunt(60)", new NightHouses().haunt(60), -1);
    }

    private static void stray() {
        Check.sentence("STRAY of a HOUSE: how FAR from HOME it is at the most behind any of n STEPS (that now, too).");
        NightHouses x = Check.told("land 4 by 4;house a at 0 0;house b at 3 3;goes (which=0)*((step<3)*2+(step>2)*4);");
        int[] due = {0, 1, 2, 3, 3, 3, 3};
        for (int n = 0; n < due.length; n++) {
            Check.due("stray(0, " + n + ")", x.stray(0, n), due[n]);
            Check.due("stray(1, " + n + ")", x.stray(1, n), 0);
        }
        x.step(false);
        x.step(false);
        x.step(false);
        Check.due("that now, too", x.stray(0, 0), 3);
        Check.due("that now, too", x.stray(0, 60), 3);
        Check.sentence("STRAY (n 0 .. 60); NONE if one can't be.");
        NightHouses late = Check.told("land 4 by 1;house a at 0 0;goes (step=59)*2;");
        Check.due("stray(0, 59)", late.stray(0, 59), 0);
        Check.due("stray(0, 60)", late.stray(0, 60), 1);
        for (int n : NOT_60) {
            Check.refused(x, "stray(0, " + n + ")", () -> x.stray(0, n));
        }
        for (int house : NO_HOUSE) {
            Check.refused(x, "stray(" + house + ", 1)", () -> x.stray(house, 1));
        }
        Check.due("corner to corner", Check.told("house a at 0 0;goes (step<5)*2+(step>4)*3;").stray(0, 60), 10);
    }

    private static void gather() {
        Check.sentence("The CELL at which most HOUSES are behind n STEPS (0 .. 60); of like ones the first; NONE without HOUSES, or for another n.");
        NightHouses x = Check.told("land 5 by 1;house a at 4 0;house b at 0 0;house c at 4 0;goes (which=0)*((step<2)*4+(step=59)*4);");
        Check.due("gather(0)", x.gather(0), 4);
        Check.due("of like ones the first: gather(1)", x.gather(1), 0);
        Check.due("gather(59)", x.gather(59), 0);
        NightHouses y = Check.told("land 2 by 1;house a at 1 0;house b at 0 0;goes (which=1)*(step=59)*2;");
        Check.due("gather(59)", y.gather(59), 0);
        Check.due("gather(60)", y.gather(60), 1);
        Check.due("all at one", Check.told("house a at 5 5;house b at 5 5;").gather(60), 35);
        for (int n : NOT_60) {
            Check.refused(x, "gather(" + n + ")", () -> x.gather(n));
        }
        Check.due("without houses: gather(0)", new NightHouses().gather(0), -1);
    }

    private static void bell() {
        Check.sentence("The least that calls would have to tell (0 .. 10) so that most HOUSES are at HOME behind n STEPS (0 .. 20) with a CALL in each: what 0: it, 1: how many; NONE if one can't be.");
        NightHouses far = Check.told("house a at 0 0;cat 0 0;calls 0;goes (step<10)*(2+(step>4));");
        for (int i = 0; i < 10; i++) {
            far.step(false);
        }
        Check.due("from 35: bell(10, 0)", far.bell(10, 0), 10);
        Check.due("from 35: bell(10, 1)", far.bell(10, 1), 1);
        Check.due("from 35, too soon: bell(9, 0)", far.bell(9, 0), 0);
        Check.due("from 35, too soon: bell(9, 1)", far.bell(9, 1), 0);
        Check.due("from 35: bell(20, 0)", far.bell(20, 0), 10);
        NightHouses x = Check.told("land 6 by 1;house a at 0 0;house b at 1 0;cat 0 0;calls 7;goes (which=0)*2;");
        Check.due("bell(0, 0)", x.bell(0, 0), 0);
        Check.due("bell(0, 1)", x.bell(0, 1), 2);
        Check.due("b is left alone by 0: bell(5, 0)", x.bell(5, 0), 0);
        Check.due("b is left alone by 0: bell(5, 1)", x.bell(5, 1), 2);
        x.step(false);
        Check.due("a is at 1 with b: bell(1, 0)", x.bell(1, 0), 0);
        Check.due("a is at 1 with b: bell(1, 1)", x.bell(1, 1), 1);
        NightHouses last = Check.told("land 6 by 1;house a at 1 0;cat 0 0;calls 1;goes (step=19)*2;");
        Check.due("bell(19, 0)", last.bell(19, 0), 0);
        Check.due("bell(20, 1)", last.bell(20, 1), 0);
        for (int what = 0; what < 2; what++) {
            int each = what;
            for (int n : NOT_20) {
                Check.refused(x, "bell(" + n + ", " + what + ")", () -> x.bell(n, each));
            }
        }
        for (int what : NOT_TWO) {
            Check.refused(x, "bell(1, " + what + ")", () -> x.bell(1, what));
        }
        Check.due("without houses: bell(20, 0)", new NightHouses().bell(20, 0), 0);
        Check.due("without houses: bell(20, 1)", new NightHouses().bell(20, 1), 0);
    }

    private static void homely() {
        Check.sentence("How many HOUSES are at HOME behind n STEPS (0 .. 60), with a CALL in each or not; NONE for another n.");
        NightHouses x = Check.told("land 3 by 1;house a at 0 0;house b at 2 0;house c at 1 0;cat 0 0;calls 0;goes (step=0)*2+(step=59)*(which=1)*4;");
        Check.due("homely(0, false)", x.homely(0, false), 3);
        Check.due("homely(0, true)", x.homely(0, true), 3);
        Check.due("homely(1, false)", x.homely(1, false), 1);
        Check.due("homely(1, true)", x.homely(1, true), 2);
        Check.due("homely(59, false)", x.homely(59, false), 1);
        Check.due("homely(60, false)", x.homely(60, false), 0);
        Check.due("homely(60, true)", x.homely(60, true), 1);
        for (int n : NOT_60) {
            Check.refused(x, "homely(" + n + ", false)", () -> x.homely(n, false));
            Check.refused(x, "homely(" + n + ", true)", () -> x.homely(n, true));
        }
        Check.due("without houses", new NightHouses().homely(60, true), 0);
    }

    private static void quarrels() {
        Check.sentence("How much TILT all have more behind n STEPS (0 .. 60), together; NONE for another n.");
        NightHouses x = Check.told("land 3 by 1;house a at 0 0;house b at 0 0;house c at 2 0;");
        Check.due("quarrels(0)", x.quarrels(0), 0);
        Check.due("quarrels(1)", x.quarrels(1), 2);
        Check.due("quarrels(60)", x.quarrels(60), 120);
        for (int i = 0; i < 60; i++) {
            x.step(false);
        }
        Check.due("what they have does not count", x.quarrels(1), 2);
        Check.due("99 at most", x.quarrels(60), 78);
        for (int i = 0; i < 38; i++) {
            x.step(false);
        }
        Check.due("one more", x.quarrels(60), 2);
        x.step(false);
        Check.due("none more", x.quarrels(60), 0);
        for (int n : NOT_60) {
            Check.refused(x, "quarrels(" + n + ")", () -> x.quarrels(n));
        }
        Check.due("without houses", new NightHouses().quarrels(60), 0);
        Check.due("of all five", Check.told("house a at 0 0;house b at 0 0;house c at 0 0;house d at 0 0;house e at 0 0;").quarrels(60), 300);
    }
}
