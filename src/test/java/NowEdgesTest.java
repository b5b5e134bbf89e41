/**
 * Promises 6, 7, 21, 23, 26, 28, 29, 31, 32, 34, 36 to 40 and 49, what is so now: each sentence of the document that
 * names an edge, with a test of its own.
 */
public final class NowEdgesTest {
    private static final int LEAST = Integer.MIN_VALUE;
    private static final int MOST = Integer.MAX_VALUE;
    private static final int[] NOT_TWO = {2, -1, 3, MOST, LEAST};
    private static final int[] NOT_THREE = {3, -1, 4, MOST, LEAST};

    public static void main(String[] args) {
        house();
        spot();
        way();
        fetch();
        suits();
        lost();
        swap();
        swapNone();
        hear();
        home();
        tilted();
        closest();
        law();
        realm();
        odds();
        lies();
        about();
        nothingDone();
        Check.finish();
    }

    private static void house() {
        Check.sentence("Of a HOUSE what 0: its CELL, 1: HOME, 2: TILT, 3: how often it woke ABROAD, 4: by which way it GOES next, 5: HOUSES at its CELL, it, too, as bits;");
        NightHouses x = Check.told("land 4 by 1;house a at 0 0;house b at 1 0;house c at 3 0;goes 2*which;");
        int[][] due = {{0, 0, 0, 0, 0, 1}, {1, 1, 0, 0, 2, 2}, {3, 3, 0, 0, 4, 4}};
        same(x, due);
        x.step(false);
        x.dawn();
        same(x, new int[][] {{0, 0, 0, 0, 0, 1}, {2, 1, 1, 1, 2, 6}, {2, 3, 1, 1, 4, 6}});
        Check.due("all of five", Check.told("house a at 0 0;house b at 0 0;house c at 0 0;house d at 0 0;house e at 0 0;").house(4, 5), 31);
        Check.due("also by which it stays", Check.told("land 1 by 1;house a at 0 0;goes 3;").house(0, 4), 3);
        Check.sentence("NONE if there is none such, or for another what.");
        for (int house : new int[] {3, -1, 4, 5, 6, 32, MOST, LEAST}) {
            for (int what = 0; what <= 5; what++) {
                int each = what;
                Check.refused(x, "house(" + house + ", " + what + ")", () -> x.house(house, each));
            }
        }
        for (int what : new int[] {6, -1, 7, MOST, LEAST}) {
            Check.refused(x, "house(2, " + what + ")", () -> x.house(2, what));
        }
        Check.due("of a new object", new NightHouses().house(0, 0), -1);
        Check.due("the fifth", Check.told("house a at 0 0;house b at 0 0;house c at 0 0;house d at 0 0;house e at 5 0;").house(4, 0), 5);
    }

    private static void same(NightHouses x, int[][] due) {
        for (int house = 0; house < due.length; house++) {
            for (int what = 0; what < 6; what++) {
                Check.due("house(" + house + ", " + what + ")", x.house(house, what), due[house][what]);
            }
        }
    }

    private static void spot() {
        Check.sentence("Of a CELL what 0: 1 if a hedge is there, else 0, 1: HOUSES there, as bits, 2: how FAR from the cat;");
        NightHouses x = Check.told("land 3 by 2;hedge 1 0;house a at 0 0;house b at 2 1;house c at 0 0;cat 2 0;");
        int[][] due = {{0, 5, 2}, {1, 0, 1}, {0, 0, 0}, {0, 0, 3}, {0, 0, 2}, {0, 2, 1}};
        for (int spot = 0; spot < 6; spot++) {
            for (int what = 0; what < 3; what++) {
                Check.due("spot(" + spot + ", " + what + ")", x.spot(spot, what), due[spot][what]);
            }
        }
        Check.sentence("`int spot(int spot, int what)`: Of a CELL what 0: 1 if a hedge is there, else 0, 1: HOUSES there, as bits, 2: how FAR from the cat; NONE if there is none such, or for another what.");
        for (int spot : new int[] {6, -1, 7, 35, 36, 64, MOST, LEAST}) {
            for (int what = 0; what < 3; what++) {
                int each = what;
                Check.refused(x, "spot(" + spot + ", " + what + ")", () -> x.spot(spot, each));
            }
        }
        for (int what : NOT_THREE) {
            Check.refused(x, "spot(0, " + what + ")", () -> x.spot(0, what));
        }
        Check.due("spot(35, 0)", new NightHouses().spot(35, 0), 0);
        Check.due("spot(36, 0)", new NightHouses().spot(36, 0), -1);
    }

    private static void way() {
        Check.sentence("WALK of the cat to a CELL: the fewest ways of GOING.");
        NightHouses x = Check.told("land 3 by 3;hedge 1 0;hedge 1 1;cat 0 0;house a at 0 1;");
        int[] due = {0, -1, 6, 1, -1, 5, 2, 3, 4};
        for (int spot = 0; spot < 9; spot++) {
            Check.due("way(" + spot + ")", x.way(spot), due[spot]);
        }
        Check.due("the longest without hedges", new NightHouses().way(35), 10);
        NightHouses snake = Check.told("land 3 by 5;hedge 0 1;hedge 1 1;hedge 1 3;hedge 2 3;cat 0 0;");
        Check.due("round and round", snake.way(14), 10);
        Check.sentence("WALK; NONE if she can't come there, or there is none such.");
        Check.refused(x, "a hedge", () -> x.way(1));
        for (int spot : new int[] {9, -1, 35, 36, MOST, LEAST}) {
            Check.refused(x, "way(" + spot + ")", () -> x.way(spot));
        }
        NightHouses y = Check.told("land 3 by 1;hedge 1 0;cat 0 0;");
        Check.due("behind a hedge", y.way(2), -1);
        Check.due("where she is", y.way(0), 0);
        y.cut(1);
        Check.due("where it was cut", y.way(2), 2);
        NightHouses all = Check.told("land 1 by 1;hedge 0 0;");
        Check.due("where she is, hedge or not", all.way(0), 0);
    }

    private static void fetch() {
        Check.sentence("FETCH: the HOUSE not at HOME that she can walk to by the fewest ways of GOING (as it stands now); of like ones the first.");
        NightHouses x = Check.told("land 6 by 1;house a at 4 0;house b at 2 0;house c at 0 0;cat 0 0;goes (which<2)*4;");
        x.step(false);
        Check.due("the nearest that is not at home", x.fetch(), 1);
        NightHouses like = Check.told("land 5 by 1;house a at 0 0;house b at 3 0;house c at 4 0;cat 2 0;goes 2+which*2;");
        like.step(false);
        Check.due("a at 1, b stays by way 4 at 2, c at 4 by 6", like.house(0, 0) * 100 + like.house(1, 0) * 10 + like.house(2, 0), 124);
        Check.due("at her cell", like.fetch(), 1);
        like.walk(2);
        Check.due("at her cell no more", like.fetch(), 1);
        NightHouses same = Check.told("land 5 by 1;house a at 0 0;house b at 4 0;cat 2 0;goes 2+which*2;");
        same.step(false);
        Check.due("of like ones the first", same.fetch(), 0);
        NightHouses round = Check.told("land 3 by 3;hedge 1 0;hedge 1 1;house a at 2 1;house b at 0 1;cat 0 0;goes 1+which*2;");
        round.step(false);
        Check.due("by ways, not by how far", round.fetch(), 1);
        Check.sentence("FETCH; NONE if all are at HOME, or she can't come to one that is not.");
        Check.due("without houses", new NightHouses().fetch(), -1);
        Check.due("all at home", Check.told("house a at 3 3;house b at 0 0;").fetch(), -1);
        NightHouses five = Check.told("land 6 by 1;house a at 1 0;house b at 1 0;house c at 1 0;house d at 1 0;house e at 1 0;cat 0 0;goes (which=4)*2;");
        Check.due("all five at home", five.fetch(), -1);
        five.step(false);
        Check.due("the fifth", five.fetch(), 4);
        NightHouses off = Check.told("land 4 by 1;hedge 1 0;house a at 2 0;cat 0 0;goes 2;");
        off.step(false);
        Check.due("she can't come", off.fetch(), -1);
        off.cut(1);
        Check.due("she can come", off.fetch(), 0);
        NightHouses second = Check.told("land 5 by 1;hedge 2 0;house a at 3 0;house b at 0 0;cat 1 0;goes 2;");
        second.step(false);
        Check.due("to the second alone", second.fetch(), 1);
    }

    private static void suits() {
        Check.sentence("SUITS: of five ways of GOING those by which a HOUSE would be nearer HOME.");
        NightHouses x = Check.told("land 5 by 5;house a at 2 2;goes (step<2)*3+(step>1)*(step<4)*2;");
        int[] due = {0, 1 << 1, 1 << 1, 1 << 1 | 1 << 4};
        for (int i = 0; i < due.length; i++) {
            Check.due("behind " + i + " steps", x.suits(0), due[i]);
            x.step(false);
        }
        NightHouses y = Check.told("land 5 by 5;house a at 2 2;goes 1+(step>0)*3;");
        y.step(false);
        Check.due("below home", y.suits(0), 1 << 3);
        y.step(false);
        Check.due("below and right of it", y.suits(0), 1 << 3 | 1 << 2);
        y.hedge(7);
        Check.due("into a hedge it would stay", y.suits(0), 1 << 3);
        y.hedge(11);
        Check.due("both ways", y.suits(0), 0);
        Check.sentence("SUITS, as bits; NONE if there is none such.");
        for (int house : new int[] {1, -1, 5, MOST, LEAST}) {
            Check.refused(y, "suits(" + house + ")", () -> y.suits(house));
        }
        Check.due("at home none", Check.told("house a at 2 2;").suits(0), 0);
    }

    private static void lost() {
        Check.sentence("HOUSES that could not come HOME by any ways of GOING (hedges as now), as bits.");
        NightHouses x = Check.told("land 4 by 1;house a at 0 0;house b at 3 0;house c at 0 0;cat 3 0;goes (which=2)*2;");
        Check.due("all at home", x.lost(), 0);
        x.step(false);
        x.step(false);
        Check.due("away, but free", x.lost(), 0);
        Check.due("hedge", x.hedge(1), 1);
        Check.due("shut out", x.lost(), 4);
        x.cut(1);
        Check.due("free again", x.lost(), 0);
        NightHouses y = Check.told("land 2 by 1;house a at 0 0;cat 1 0;goes 2;");
        y.step(false);
        y.hedge(0);
        Check.due("a hedge at home", y.lost(), 1);
        Check.due("without houses", new NightHouses().lost(), 0);
        NightHouses all = Check.told("land 2 by 1;house a at 0 0;house b at 0 0;house c at 0 0;house d at 0 0;house e at 0 0;cat 1 0;goes 2;");
        all.step(false);
        all.hedge(0);
        Check.due("all five", all.lost(), 31);
    }

    private static void swap() {
        Check.sentence("The two HOUSES by whose exchange of CELLS most are at HOME, if these are more than now; of like ones the first (the lesser number, then the other one): what 0: the first one, 1: the other one, 2: how many;");
        NightHouses x = Check.told("land 2 by 1;house a at 0 0;house b at 1 0;goes 2+which*2;");
        x.step(false);
        Check.due("swap(0)", x.swap(0), 0);
        Check.due("swap(1)", x.swap(1), 1);
        Check.due("swap(2)", x.swap(2), 2);
        // a to 1, b to 0, c to 3, d to 2, e stays: two exchanges do like much
        NightHouses y = Check.told("land 5 by 1;house a at 0 0;house b at 1 0;house c at 2 0;house d at 3 0;house e at 4 0;"
                + "goes (which<4)*(2+which%2*2);");
        y.step(false);
        Check.due("of like ones swap(0)", y.swap(0), 0);
        Check.due("of like ones swap(1)", y.swap(1), 1);
        Check.due("of like ones swap(2)", y.swap(2), 3);
        // a is at b's and at c's home alike, b and c are both at a's
        NightHouses z = Check.told("land 2 by 1;house a at 0 0;house b at 1 0;house c at 1 0;goes 2+(which>0)*2;");
        z.step(false);
        Check.due("the lesser other one: swap(0)", z.swap(0), 0);
        Check.due("the lesser other one: swap(1)", z.swap(1), 1);
        Check.due("the lesser other one: swap(2)", z.swap(2), 2);
        // b and c change places, a and d stay
        NightHouses w = Check.told("land 4 by 1;house a at 0 0;house b at 1 0;house c at 2 0;house d at 3 0;goes (which=1)*2+(which=2)*4;");
        w.step(false);
        Check.due("not the first ones: swap(0)", w.swap(0), 1);
        Check.due("not the first ones: swap(1)", w.swap(1), 2);
        Check.due("not the first ones: swap(2)", w.swap(2), 4);
    }

    private static void swapNone() {
        Check.sentence("2: how many; NONE if there are none, or for another what.");
        NightHouses away = Check.told("land 3 by 1;house a at 0 0;house b at 0 0;goes 2;");
        NightHouses[] all = {new NightHouses(), Check.told("house a at 0 0;"), Check.told("house a at 0 0;house b at 0 0;"),
            Check.told("house a at 0 0;house b at 1 0;"), away};
        away.step(false);
        for (NightHouses x : all) {
            for (int what = 0; what < 3; what++) {
                Check.due("swap(" + what + ")", x.swap(what), -1);
            }
        }
        NightHouses x = Check.told("land 2 by 1;house a at 0 0;house b at 1 0;goes 2+which*2;");
        x.step(false);
        for (int what : NOT_THREE) {
            Check.refused(x, "swap(" + what + ")", () -> x.swap(what));
        }
        // a goes to b's home, b to where nobody lives
        NightHouses like = Check.told("land 3 by 1;house a at 0 0;house b at 1 0;goes 2;");
        like.step(false);
        Check.due("b comes home by it", like.swap(2), 1);
        Check.due("none is at home now", like.home(), 0);
        // a stays at home, b goes there: exchanged, a is at home still, and no more are
        NightHouses no = Check.told("land 2 by 1;house a at 0 0;house b at 1 0;goes which*4;");
        no.step(false);
        Check.due("as many as now are not more", no.swap(0), -1);
        Check.sentence("The two HOUSES that are the least FAR from one another; of like ones the first (the lesser number, then the other one): what 0: the first one, 1: the other one, 2: how FAR; NONE if there are none, or for another what.");
        for (int what : NOT_THREE) {
            Check.refused(x, "closest(" + what + ")", () -> x.closest(what));
        }
        for (int what = 0; what < 3; what++) {
            Check.due("of none", new NightHouses().closest(what), -1);
            Check.due("of one", Check.told("house a at 0 0;").closest(what), -1);
        }
    }

    private static void closest() {
        Check.sentence("The two HOUSES that are the least FAR from one another; of like ones the first (the lesser number, then the other one)");
        pair("house a at 0 0;house b at 5 5;", 0, 1, 10);
        pair("house a at 0 0;house b at 5 5;house c at 5 4;", 1, 2, 1);
        pair("house a at 0 0;house b at 2 0;house c at 4 0;", 0, 1, 2);
        pair("house a at 2 0;house b at 5 5;house c at 4 0;house d at 0 0;", 0, 2, 2);
        pair("house a at 0 0;house b at 2 2;house c at 4 4;house d at 2 2;house e at 0 0;", 0, 4, 0);
        pair("house a at 5 5;house b at 0 0;house c at 3 0;house d at 0 3;house e at 5 0;", 2, 4, 2);
    }

    private static void pair(String text, int first, int other, int far) {
        NightHouses x = Check.told(text);
        Check.due("closest(0) of " + text, x.closest(0), first);
        Check.due("closest(1) of " + text, x.closest(1), other);
        Check.due("closest(2) of " + text, x.closest(2), far);
    }

    private static void hear() {
        Check.sentence("HOUSES that hear a CALL now, as bits.");
        String all = "house a at 0 0;house b at 1 0;house c at 1 1;house d at 2 1;house e at 5 5;cat 0 0;";
        Check.due("calls 0", Check.told(all + "calls 0;").hear(), 1);
        Check.due("calls 1", Check.told(all + "calls 1;").hear(), 3);
        Check.due("calls 2, as if not told", Check.told(all).hear(), 7);
        Check.due("calls 3", Check.told(all + "calls 3;").hear(), 15);
        Check.due("calls 9", Check.told(all + "calls 9;").hear(), 15);
        Check.due("calls 10", Check.told(all + "calls 10;").hear(), 31);
        Check.due("without houses", new NightHouses().hear(), 0);
        NightHouses x = Check.told("land 3 by 1;hedge 1 0;house a at 2 0;cat 0 0;");
        Check.due("hedges hinder no call", x.hear(), 1);
    }

    private static void home() {
        Check.sentence("`int home()`: HOUSES at HOME, as bits.");
        NightHouses x = Check.told("land 2 by 1;house a at 0 0;house b at 1 0;house c at 0 0;house d at 1 0;house e at 1 0;goes 2;");
        Check.due("all", x.home(), 31);
        x.step(false);
        Check.due("some", x.home(), 26);
        Check.due("without houses", new NightHouses().home(), 0);
    }

    private static void tilted() {
        Check.sentence("The HOUSE of the most TILT; of like ones the first; NONE without HOUSES.");
        Check.due("without houses", new NightHouses().tilted(), -1);
        Check.due("all 0", Check.told("house a at 0 0;house b at 1 0;").tilted(), 0);
        NightHouses x = Check.told("land 4 by 1;house a at 0 0;house b at 2 0;house c at 3 0;goes 2;");
        x.step(false);
        Check.due("b and c alike", x.tilted(), 1);
        x.step(false);
        Check.due("b and c alike", x.tilted(), 1);
        NightHouses y = Check.told("land 3 by 1;house a at 2 0;house b at 2 0;house c at 0 0;goes (which=2)*2+(which=0)*(step=0)*4;");
        y.step(false);
        Check.due("a and c", y.house(0, 2) * 100 + y.house(1, 2) * 10 + y.house(2, 2), 101);
        y.step(false);
        Check.due("c has 2", y.tilted(), 2);
    }

    private static void law() {
        Check.sentence("How many HOUSES would hear a CALL now, if calls told n (0 .. 99); NONE for another n.");
        NightHouses x = Check.told("house a at 0 0;house b at 1 0;house c at 5 5;cat 0 0;calls 5;");
        Check.due("law(0)", x.law(0), 1);
        Check.due("law(1)", x.law(1), 2);
        Check.due("law(9)", x.law(9), 2);
        Check.due("law(10)", x.law(10), 3);
        Check.due("law(11)", x.law(11), 3);
        Check.due("law(99)", x.law(99), 3);
        for (int n : new int[] {100, -1, 101, MOST, LEAST}) {
            Check.refused(x, "law(" + n + ")", () -> x.law(n));
        }
        Check.due("without houses", new NightHouses().law(99), 0);
    }

    private static void realm() {
        Check.sentence("CELLS she can walk to (hers, too): how many.");
        Check.due("of 36", new NightHouses().realm(), 36);
        Check.due("of 1", Check.told("land 1 by 1;").realm(), 1);
        NightHouses x = Check.told("land 3 by 3;hedge 1 0;hedge 0 1;cat 0 0;house a at 2 2;");
        Check.due("shut in", x.realm(), 1);
        x.cut(1);
        Check.due("let out", x.realm(), 8);
        Check.due("at a hedge", Check.told("land 1 by 1;hedge 0 0;").realm(), 1);
    }

    private static void odds() {
        Check.sentence("ODDS (n 0 .. 4) the upper part (0), the lower part (1), in lowest terms (0 of 1); NONE if one can't be.");
        int[][] due = {{0, 1, 1, 1}, {0, 4, 1, 1}, {100, 0, 1, 1}, {100, 1, 0, 1}, {100, 4, 0, 1}, {20, 1, 4, 5},
            {20, 2, 16, 25}, {50, 4, 1, 16}, {1, 1, 99, 100}, {1, 4, 96059601, 100000000}, {99, 4, 1, 100000000},
            {75, 3, 1, 64}, {36, 2, 256, 625}, {98, 1, 1, 50}, {5, 3, 6859, 8000}};
        for (int[] row : due) {
            NightHouses x = Check.told("gale " + row[0] + ";house a at 0 0;");
            Check.due("gale " + row[0] + ", odds(" + row[1] + ", 0)", x.odds(row[1], 0), row[2]);
            Check.due("gale " + row[0] + ", odds(" + row[1] + ", 1)", x.odds(row[1], 1), row[3]);
        }
        NightHouses x = Check.told("gale 20;");
        for (int n : new int[] {5, -1, 6, MOST, LEAST}) {
            Check.refused(x, "odds(" + n + ", 0)", () -> x.odds(n, 0));
            Check.refused(x, "odds(" + n + ", 1)", () -> x.odds(n, 1));
        }
        for (int part : NOT_TWO) {
            Check.refused(x, "odds(1, " + part + ")", () -> x.odds(1, part));
            Check.refused(x, "odds(0, " + part + ")", () -> x.odds(0, part));
        }
        Check.sentence("ODDS of a HOUSE: that no gale takes it in n STEPS, whatever the SEED is.");
        x.step(false);
        Check.due("behind a step", x.odds(1, 0) * 10 + x.odds(1, 1), 45);
    }

    private static void lies() {
        Check.sentence("The i-th number of what lies there; NONE if there is none such.");
        NightHouses x = Check.told("land 3 by 1;house a at 0 0;cat 0 0;calls 10;goes 2;");
        Check.due("nothing lies: lies(0)", x.lies(0), -1);
        x.plan(0, 3);
        Check.due("lies(0)", x.lies(0), 0);
        Check.due("lies(1)", x.lies(1), 1);
        Check.due("lies(2)", x.lies(2), 1);
        for (int i : new int[] {3, -1, 4, 10, 11, MOST, LEAST}) {
            Check.refused(x, "lies(" + i + ")", () -> x.lies(i));
        }
        x.plan(0, 10);
        Check.due("lies(9)", x.lies(9), 1);
        Check.refused(x, "lies(10)", () -> x.lies(10));
    }

    private static void about() {
        Check.sentence("16: gale in 100. NONE for another what.");
        NightHouses x = Check.told("land 4 by 3;hedge 1 1;house a at 0 0;house b at 3 2;cat 2 0;goes 2*step+1;calls 3;gale 20;draw 7;");
        x.hedge(11 - 3);
        x.step(false);
        x.dawn();
        x.step(false);
        x.undo();
        x.later(12);
        x.seen(0, 0, false);
        x.feed(1, 2, 3, 4, 5);
        x.end(13);
        x.plan(0, 0);
        int[] due = {2, 4, 3, 2, 2, 0, 1, (((7 * 137 + 71) % 1000) * 137 + 71) % 1000, 3, 1, 1, 12, 13, 3, 0, 3, 20};
        for (int what = 0; what < due.length; what++) {
            int each = what;
            Check.still(x, "about(" + what + ")", () -> x.about(each), due[what]);
        }
        for (int what : new int[] {17, -1, 18, MOST, LEAST}) {
            Check.refused(x, "about(" + what + ")", () -> x.about(what));
        }
        Check.due("what lies", x.plan(0, 4) >= 0 && x.about(14) == 4, true);
    }

    private static void nothingDone() {
        Check.sentence("(By what is now; nothing is done;");
        NightHouses x = Check.told("land 4 by 4;hedge 1 1;house a at 0 0;house b at 3 3;house c at 0 0;goes step+which;calls 3;gale 50;");
        x.step(true);
        x.dawn();
        x.undo();
        String before = Sight.of(x);
        for (int i = 0; i < 4; i++) {
            x.way(i);
            x.fetch();
            x.suits(i);
            x.lost();
            x.swap(i);
            x.closest(i);
            x.law(i);
            x.realm();
            x.odds(i, 0);
            x.tilted();
        }
        Check.due("behind all that asks", Sight.of(x), before);
    }
}
