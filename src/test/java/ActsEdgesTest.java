/** Part 2 of the document and promises 8 to 14, 47 and 48: each sentence that names an edge, with a test of its own. */
public final class ActsEdgesTest {
    private static final int LEAST = Integer.MIN_VALUE;
    private static final int MOST = Integer.MAX_VALUE;

    public static void main(String[] args) {
        cells();
        ways();
        atFirst();
        modulo();
        ints();
        divisions();
        relations();
        allAtOnce();
        hearing();
        coming();
        tilt();
        seed();
        gale();
        onceMore();
        step();
        stepsEnd();
        walk();
        dawn();
        dawnsEnd();
        hedge();
        hedgeRefused();
        cut();
        undo();
        redo();
        forty();
        image();
        restore();
        Check.finish();
    }

    private static void cells() {
        Check.sentence("CELLS are numbered: row * COLUMNS + column.");
        NightHouses x = Check.told("land 4 by 3;house a at 0 0;house b at 3 0;house c at 0 1;house d at 3 2;hedge 1 2;cat 1 1;");
        Check.due("0 0", x.house(0, 0), 0);
        Check.due("3 0", x.house(1, 0), 3);
        Check.due("0 1", x.house(2, 0), 4);
        Check.due("3 2", x.house(3, 0), 11);
        Check.due("1 2", x.spot(9, 0), 1);
        Check.due("1 1", x.about(4), 5);
        Check.sentence("FAR are two CELLS: what lies between their columns and between their rows, together.");
        for (int cell = 0; cell < 12; cell++) {
            Check.due("spot(" + cell + ", 2)", x.spot(cell, 2), Math.abs(cell % 4 - 1) + Math.abs(cell / 4 - 1));
        }
        Check.due("a corner from the other", Check.told("cat 5 0;").spot(30, 2), 10);
    }

    private static int gone(String text) {
        NightHouses x = Check.told(text);
        x.step(false);
        return x.house(0, 0);
    }

    private static void ways() {
        Check.sentence("A way of GOING is 0 stay, 1 to the row before, 2 to the next column, 3 to the next row, 4 to the column before;");
        int[] to = {4, 1, 5, 7, 3};
        for (int way = 0; way < 5; way++) {
            Check.due("way " + way, gone("land 3 by 3;house a at 1 1;goes " + way + ";"), to[way]);
        }
        Check.sentence("who would go off the land, or into a hedge, stays.");
        for (int way = 0; way < 5; way++) {
            Check.due("off the land by " + way, gone("land 1 by 1;house a at 0 0;goes " + way + ";"), 0);
            String hedges = "hedge 1 0;hedge 2 1;hedge 1 2;hedge 0 1;";
            Check.due("into a hedge by " + way, gone("land 3 by 3;house a at 1 1;" + hedges + "goes " + way + ";"), 4);
        }
        Check.due("at the first row", gone("land 3 by 3;house a at 1 0;goes 1;"), 1);
        Check.due("at the last column", gone("land 3 by 3;house a at 2 0;goes 2;"), 2);
        Check.due("at the last row", gone("land 3 by 3;house a at 1 2;goes 3;"), 7);
        Check.due("at the first column", gone("land 3 by 3;house a at 0 1;goes 4;"), 3);
        Check.due("to the first row", gone("land 3 by 3;house a at 1 1;goes 1;"), 1);
        Check.due("to the last column", gone("land 3 by 2;house a at 1 0;goes 2;"), 2);
        Check.due("to the last row", gone("land 3 by 2;house a at 1 0;goes 3;"), 4);
        NightHouses x = Check.told("land 3 by 1;house a at 0 0;goes 2;cat 2 0;");
        x.hedge(1);
        x.step(false);
        Check.due("into one that was set", x.house(0, 0), 0);
        x.cut(1);
        x.step(false);
        Check.due("where one was cut", x.house(0, 0), 1);
    }

    private static void atFirst() {
        Check.sentence("A HOUSE is at a CELL (its HOME, at first), has a TILT (0 at first), woke ABROAD so often (0 at first).");
        NightHouses x = Check.told("house a at 3 3;house b at 3 3;house c at 5 5;");
        int[] homes = {21, 21, 35};
        for (int house = 0; house < 3; house++) {
            Check.due("its cell", x.house(house, 0), homes[house]);
            Check.due("its home", x.house(house, 1), homes[house]);
            Check.due("its tilt", x.house(house, 2), 0);
            Check.due("abroad", x.house(house, 3), 0);
        }
    }

    /** The way by which the second of two houses goes, at column 3 and row 2. */
    private static int comes(String formula) {
        return Check.told("house z at 0 0;house a at 3 2;goes " + formula + ";").house(1, 4);
    }

    private static void due(String formula, int want) {
        Check.due(formula, comes(formula), want);
    }

    private static void modulo() {
        Check.sentence("It GOES by what comes of goes (0, if it is not told) modulo 5 (0 at least, also of one below 0)");
        Check.due("not told", Check.told("house a at 3 2;").house(0, 4), 0);
        Check.due("not told: it stays", gone("house a at 3 2;"), 15);
        due("0", 0);
        due("4", 4);
        due("5", 0);
        due("6", 1);
        due("9999", 4);
        due("0-1", 4);
        due("0-4", 1);
        due("0-5", 0);
        due("0-6", 4);
        due("0-9999", 1);
    }

    private static void ints() {
        Check.sentence("by which (its number), step (0 at first), column, row (of its CELL), tilt (its TILT), night (0 at first; ints, wrapping;");
        due("which", 1);
        due("column", 3);
        due("row", 2);
        due("step+tilt+night", 0);
        due("4096*4096*128<0", 1);
        due("4096*4096*128-1>0", 1);
        due("4096*4096*128+4096*4096*128=0", 1);
        due("4096*4096*128", Math.floorMod(LEAST, 5));
        due("0-4096*4096*128<0", 1);
        due("9999*9999*9999", Math.floorMod(9999 * 9999 * 9999, 5));
        NightHouses x = Check.told("land 2 by 2;house a at 0 0;house b at 0 0;goes step+tilt*10+night*100-(step+tilt*10+night*100)/5*5;");
        Check.due("at first", x.house(0, 4), 0);
        x.step(false);
        Check.due("step 1, tilt 1", x.house(0, 4), 1);
        x.dawn();
        Check.due("step 0, night 1", x.house(0, 4), 0);
        NightHouses y = Check.told("land 4 by 4;house a at 0 0;goes 2+night;");
        y.step(false);
        y.dawn();
        Check.due("by the night", y.house(0, 4), 3);
        NightHouses z = Check.told("land 4 by 1;house a at 0 0;goes 2-column/2*2;");
        z.step(false);
        z.step(false);
        z.step(false);
        Check.due("by the cell where it is", z.house(0, 0), 2);
    }

    private static void divisions() {
        Check.sentence("/ cut, % its rest, both by 0: 0;");
        due("7/2", 3);
        due("(0-7)/2", 2);
        due("7/(0-2)", 2);
        due("(0-7)/(0-2)", 3);
        due("7%4", 3);
        due("(0-7)%3", 4);
        due("7%(0-3)", 1);
        due("7/0", 0);
        due("7%0", 0);
        due("0/0", 0);
        due("(0-7)/0", 0);
        due("(0-7)%0", 0);
        due("1+7/(3-column)", 1);
        due("4096*4096*128/(0-1)", Math.floorMod(LEAST, 5));
        due("4096*4096*128/(0-1)<0", 1);
        due("4096*4096*128%(0-1)", 0);
    }

    private static void relations() {
        Check.sentence("relations, and, or, not are 1 or 0, of what is not 0).");
        due("3<4", 1);
        due("3<3", 0);
        due("4<3", 0);
        due("4>3", 1);
        due("3>3", 0);
        due("3>4", 0);
        due("3=3", 1);
        due("3=4", 0);
        due("2 and 4", 1);
        due("2 and 0", 0);
        due("0 and 2", 0);
        due("0 and 0", 0);
        due("(0-1)and 7", 1);
        due("2 or 4", 1);
        due("0 or 7", 1);
        due("7 or 0", 1);
        due("0 or 0", 0);
        due("0 or(0-1)", 1);
        due("not 0", 1);
        due("not 7", 0);
        due("not(0-1)", 0);
        due("not not 7", 1);
        due("not 3=4", 1);
        due("not 0 and 0", 0);
        due("1 or 1 and 0", 1);
        due("3+(2<3)", 4);
        due("3-1-1", 1);
        due("1+2*3", 2);
        due("1 + 1 < 3", 1);
        due("(0-3)<2", 1);
    }

    private static void allAtOnce() {
        Check.sentence("A STEP: each HOUSE GOES, all by what is so ahead of it;");
        NightHouses x = Check.told("land 2 by 1;house a at 0 0;house b at 1 0;goes 2+which*2;");
        Check.due("they pass one another", x.step(false), 0);
        Check.due("a", x.house(0, 0), 1);
        Check.due("b", x.house(1, 0), 0);
        NightHouses y = Check.told("land 3 by 1;house a at 0 0;house b at 0 0;goes tilt*2;");
        Check.due("without tilt both stay", y.step(false) * 10 + y.house(0, 0), 30);
        Check.due("with tilt both go", y.step(false) * 10 + y.house(0, 0), 31);
        Check.due("and with 2", y.house(0, 2) * 10 + y.house(0, 4), 24);
    }

    private static int called(String text) {
        NightHouses x = Check.told(text);
        x.step(true);
        return x.house(0, 0);
    }

    private static void hearing() {
        Check.sentence("if the cat CALLS, each HOUSE whose CELL is no more FAR from hers than calls tells COMES instead:");
        Check.due("at FAR 4 of 4", called("land 6 by 1;house a at 4 0;cat 0 0;calls 4;goes 2;"), 3);
        Check.due("at FAR 5 of 4", called("land 6 by 2;house a at 4 1;cat 0 0;calls 4;goes 2;"), 11);
        Check.due("at FAR 0 of 0", called("land 6 by 1;house a at 4 0;cat 4 0;calls 0;goes 2;"), 4);
        Check.due("at FAR 1 of 0", called("land 6 by 1;house a at 3 0;cat 4 0;calls 0;goes 4;"), 2);
        Check.due("at FAR 10 of 10", called("house a at 5 5;cat 0 0;calls 10;"), 34);
        Check.due("at FAR 10 of 9", called("house a at 5 5;cat 0 0;calls 9;"), 35);
        Check.due("not called", gone("land 6 by 1;house a at 4 0;cat 0 0;calls 4;goes 2;"), 5);
        NightHouses x = Check.told("land 6 by 1;house a at 1 0;house b at 4 0;cat 0 0;calls 2;goes 2;");
        x.step(true);
        Check.due("one hears, one does not", x.house(0, 0) * 10 + x.house(1, 0), 5);
        NightHouses y = Check.told("land 3 by 1;house a at 2 0;cat 0 0;goes 3;");
        y.walk(2);
        y.step(true);
        Check.due("to where she has walked", y.house(0, 0), 1);
        y.step(true);
        Check.due("and no farther", y.house(0, 0), 1);
    }

    private static void coming() {
        Check.sentence("in its column's way towards hers, if they differ in that and it would not stay by it, else in its row's way, if they differ in that (and stays, if that leads nowhere).");
        String[] corners = {"0 0", "4 0", "0 4", "4 4"};
        int[] aside = {1, 3, 21, 23};
        int[] along = {5, 9, 15, 19};
        String[] besides = {"1 0", "3 0", "1 4", "3 4"};
        String[] beneath = {"0 1", "4 1", "0 3", "4 3"};
        int[] cells = {0, 4, 20, 24};
        for (int i = 0; i < 4; i++) {
            String open = "land 5 by 5;cat 2 2;calls 4;house a at " + corners[i] + ";";
            Check.due("column ahead, from " + corners[i], called(open), aside[i]);
            Check.due("row, from " + corners[i], called(open + "hedge " + besides[i] + ";"), along[i]);
            Check.due("nowhere, from " + corners[i],
                    called(open + "hedge " + besides[i] + ";hedge " + beneath[i] + ";"), cells[i]);
        }
        Check.due("in her row, behind a hedge", called("land 5 by 5;cat 2 2;hedge 1 2;house a at 0 2;goes 1;"), 10);
        Check.due("in her row", called("land 5 by 5;cat 2 2;house a at 0 2;goes 1;"), 11);
        Check.due("in her column, behind a hedge", called("land 5 by 5;cat 2 2;hedge 2 1;house a at 2 0;goes 2;"), 2);
        Check.due("in her column", called("land 5 by 5;cat 2 2;house a at 2 0;goes 2;"), 7);
        Check.due("at her cell", called("land 5 by 5;cat 2 2;house a at 2 2;goes 2;"), 12);
        Check.due("from the row before", called("land 5 by 5;cat 2 2;house a at 2 1;goes 2;"), 12);
        Check.due("from the next row", called("land 5 by 5;cat 2 2;house a at 2 3;goes 2;"), 12);
        Check.due("from the column before", called("land 5 by 5;cat 2 2;house a at 1 2;goes 1;"), 12);
        Check.due("from the next column", called("land 5 by 5;cat 2 2;house a at 3 2;goes 1;"), 12);
    }

    private static void tilt() {
        Check.sentence("Then each HOUSE that is at a CELL with another one has 1 more TILT (99 at most; once, however many).");
        NightHouses x = Check.told("house a at 0 0;house b at 0 0;house c at 0 0;house d at 0 0;house e at 1 0;");
        for (int i = 1; i <= 101; i++) {
            Check.due("step", x.step(false), 15);
            for (int house = 0; house < 4; house++) {
                Check.due("house(" + house + ", 2) behind " + i, x.house(house, 2), Math.min(i, 99));
            }
            Check.due("alone", x.house(4, 2), 0);
        }
        NightHouses y = Check.told("land 4 by 1;house a at 0 0;house b at 0 0;house c at 3 0;house d at 3 0;");
        Check.due("two and two", y.step(false), 15);
        Check.due("their tilt", y.house(0, 2) + y.house(1, 2) + y.house(2, 2) + y.house(3, 2), 4);
        NightHouses z = Check.told("land 2 by 1;house a at 0 0;house b at 0 0;goes which*2;");
        Check.due("parted in the step", z.step(false) + z.house(0, 2), 0);
    }

    private static int seedBehind(String text) {
        NightHouses x = Check.told(text);
        x.step(false);
        return x.about(7);
    }

    private static void seed() {
        Check.sentence("In earnest, ahead of that, HOUSE by HOUSE, the SEED (draw, at first) becomes its 137-fold and 71 more, modulo 1,000,");
        Check.due("draw, at first", Check.told("draw 999;").about(7), 999);
        Check.due("999, one house", seedBehind("draw 999;house a at 0 0;"), 934);
        Check.due("999, two houses", seedBehind("draw 999;house a at 0 0;house b at 1 0;"), 29);
        Check.due("999, no house", seedBehind("draw 999;"), 999);
        Check.due("0, one house", seedBehind("house a at 0 0;"), 71);
        Check.due("17, one house", seedBehind("draw 17;house a at 0 0;"), 400);
        NightHouses x = Check.told("house a at 0 0;cat 0 0;");
        x.step(true);
        Check.due("with a call, too", x.about(7), 71);
    }

    private static void gale() {
        Check.sentence("and if its rest by 100 is less than gale tells, it GOES once more");
        String row = "land 6 by 1;house a at 0 0;goes 2;";
        Check.due("rest 34, gale 34", gone(row + "draw 999;gale 34;"), 1);
        Check.due("rest 34, gale 35", gone(row + "draw 999;gale 35;"), 2);
        Check.due("rest 0, gale 0", gone(row + "draw 17;gale 0;"), 1);
        Check.due("rest 0, gale 1", gone(row + "draw 17;gale 1;"), 2);
        Check.due("rest 99, gale 99", gone(row + "draw 44;gale 99;"), 1);
        Check.due("rest 99, gale 100", gone(row + "draw 44;gale 100;"), 2);
        Check.due("rest 99, gale not told", gone(row + "draw 17;"), 1);
        NightHouses x = Check.told("land 6 by 1;house a at 0 0;house b at 0 0;goes 2;draw 999;gale 30;");
        x.step(false);
        Check.due("34 does not take a, 29 takes b", x.house(0, 0) * 10 + x.house(1, 0), 12);
    }

    private static void onceMore() {
        Check.sentence("it GOES once more (by its CELL then; step as ahead).");
        Check.due("by its cell then", gone("land 6 by 1;house a at 0 0;goes 2-column*2;gale 100;"), 1);
        Check.due("step as ahead", gone("land 6 by 1;house a at 0 0;goes 2-step*2;gale 100;"), 2);
        NightHouses x = Check.told("land 6 by 1;house a at 0 0;house b at 2 0;goes 2+which*2-tilt*2;gale 100;");
        x.step(false);
        Check.due("ahead of the tilt", x.house(0, 0) * 1000 + x.house(1, 0) * 100 + x.house(0, 2) * 10 + x.house(1, 2), 2000);
        Check.due("who came, too", called("land 6 by 1;house a at 3 0;cat 0 0;calls 9;goes 2;gale 100;"), 3);
        Check.due("into a hedge", gone("land 6 by 1;hedge 2 0;house a at 0 0;goes 2;gale 100;"), 1);
    }

    private static void step() {
        Check.sentence("A STEP: who is at a CELL with another one then, as bits;");
        NightHouses x = Check.told("land 5 by 1;house a at 0 0;house b at 2 0;house c at 4 0;goes 2+which*(2-which)*2+which/2*2;");
        Check.due("a goes on, b and c come back", x.house(0, 4) * 100 + x.house(1, 4) * 10 + x.house(2, 4), 244);
        Check.due("a and b", x.step(false), 3);
        Check.due("a and c", x.step(false), 5);
        Check.due("none of none", new NightHouses().step(true), 0);
        Check.sentence("The step goes up by 1.");
        Check.due("about(5)", x.about(5), 2);
        x.step(true);
        Check.due("about(5)", x.about(5), 3);
    }

    private static void stepsEnd() {
        Check.sentence("NONE, doing nothing, behind 999 of them this night. (An ACT.)");
        NightHouses x = Check.told("land 2 by 1;house a at 0 0;house b at 0 0;goes 2;draw 9;");
        for (int i = 0; i < 998; i++) {
            x.step(false);
        }
        Check.due("the 999th", x.step(false), 3);
        Check.due("about(5)", x.about(5), 999);
        x.undo();
        x.step(false);
        x.walk(2);
        x.undo();
        Check.refused(x, "the 1000th", () -> x.step(false));
        Check.refused(x, "the 1000th, with a call", () -> x.step(true));
        x.dawn();
        Check.due("the next night", x.step(false), 3);
        Check.due("about(5)", x.about(5), 1);
    }

    private static void walk() {
        Check.sentence("She walks (1 .. 4): her CELL then;");
        NightHouses x = Check.told("land 3 by 3;cat 1 1;house a at 0 0;");
        Check.due("walk(1)", x.walk(1), 1);
        Check.due("walk(2)", x.walk(2), 2);
        Check.due("walk(3)", x.walk(3), 5);
        Check.due("walk(4)", x.walk(4), 4);
        Check.due("about(4)", x.about(4), 4);
        x.walk(4);
        Check.due("to a house", x.walk(1), 0);
        Check.due("acts", x.about(8), 6);
        Check.sentence("NONE, doing nothing, if she would stay, or one can't be.");
        x.undo();
        x.redo();
        x.dawn();
        x.undo();
        Check.refused(x, "off the first row", () -> x.walk(1));
        Check.refused(x, "off the first column", () -> x.walk(4));
        for (int way : new int[] {0, 5, -1, -4, 9, MOST, LEAST}) {
            Check.refused(x, "walk(" + way + ")", () -> x.walk(way));
        }
        NightHouses y = Check.told("land 3 by 3;cat 2 2;hedge 2 1;hedge 1 2;");
        Check.refused(y, "off the last row", () -> y.walk(3));
        Check.refused(y, "off the last column", () -> y.walk(2));
        Check.refused(y, "into a hedge", () -> y.walk(1));
        Check.refused(y, "into a hedge", () -> y.walk(4));
        NightHouses z = Check.told("land 2 by 2;cat 0 0;");
        z.hedge(1);
        Check.refused(z, "into a hedge that was set", () -> z.walk(2));
        z.cut(1);
        Check.due("where it was cut", z.walk(2), 1);
    }

    private static void dawn() {
        Check.sentence("DAWN: the step is 0, the night goes up by 1, each HOUSE that is not at HOME woke ABROAD once more (99 at most);");
        NightHouses x = Check.told("land 3 by 1;house a at 0 0;house b at 2 0;house c at 1 0;goes 2;draw 7;");
        Check.due("all at home", x.dawn(), 0);
        x.step(false);
        int seed = x.about(7);
        for (int i = 1; i <= 101; i++) {
            x.step(false);
            x.undo();
            Check.due("dawn " + i, x.dawn(), 5);
            Check.due("step", x.about(5), 0);
            Check.due("night", x.about(6), 1 + i);
            Check.due("a", x.house(0, 3), Math.min(i, 99));
            Check.due("b at home", x.house(1, 3), 0);
            Check.due("c", x.house(2, 3), Math.min(i, 99));
        }
        Check.due("they stay where they are", x.house(0, 0) * 10 + x.house(2, 0), 12);
        Check.due("tilt stays", x.house(1, 2) * 10 + x.house(0, 2), 10);
        Check.due("the seed stays", x.about(7), seed);
        Check.due("the cat stays", x.about(4), 0);
        Check.due("homes stay", x.house(0, 1), 0);
    }

    private static void dawnsEnd() {
        Check.sentence("DAWN: who woke ABROAD, as bits; NONE, doing nothing, behind 999 of them. (An ACT.)");
        NightHouses x = Check.told("land 2 by 1;house a at 0 0;house b at 1 0;goes 2;");
        x.step(false);
        for (int i = 0; i < 998; i++) {
            Check.due("dawn", x.dawn(), 1);
        }
        x.step(false);
        Check.due("the 999th", x.dawn(), 1);
        Check.due("about(6)", x.about(6), 999);
        x.step(false);
        x.step(false);
        x.undo();
        Check.refused(x, "the 1000th", x::dawn);
        Check.due("steps go on", x.step(false), 3);
        Check.due("none of none", new NightHouses().dawn(), 0);
    }

    private static void hedge() {
        Check.sentence("a hedge is set at a CELL where nothing is, or cut.");
        NightHouses x = Check.told("land 3 by 2;hedge 2 1;house a at 0 0;cat 1 0;goes 3;");
        Check.due("where nothing is", x.hedge(2), 2);
        Check.due("it is there", x.spot(2, 0), 1);
        Check.due("the other is, too", x.spot(5, 0), 1);
        Check.due("none elsewhere", x.spot(3, 0) + x.spot(4, 0) + x.spot(0, 0) + x.spot(1, 0), 0);
        x.step(false);
        Check.due("at a home", x.hedge(0), 3);
        x.walk(3);
        Check.due("where the cat was", x.hedge(1), 4);
        Check.due("the cat is elsewhere", x.hedge(4), -1);
        Check.due("acts", x.about(8), 5);
    }

    private static void hedgeRefused() {
        Check.sentence("NONE, doing nothing, if a HOUSE, the cat, a hedge is there, there are 12, or there is none such CELL.");
        NightHouses x = Check.told("hedge 5 5;house a at 0 0;house b at 1 1;cat 1 0;");
        x.hedge(34);
        x.dawn();
        x.undo();
        Check.refused(x, "at a house", () -> x.hedge(0));
        Check.refused(x, "at the second house", () -> x.hedge(7));
        Check.refused(x, "at the cat", () -> x.hedge(1));
        Check.refused(x, "at a hedge as told", () -> x.hedge(35));
        Check.refused(x, "at one that was set", () -> x.hedge(34));
        for (int spot : new int[] {36, -1, 64, 99, MOST, LEAST}) {
            Check.refused(x, "hedge(" + spot + ")", () -> x.hedge(spot));
        }
        for (int i = 3; i <= 12; i++) {
            Check.due("hedge", x.hedge(10 + i), i);
        }
        Check.refused(x, "the 13th", () -> x.hedge(30));
        Check.due("cut", x.cut(13), 11);
        Check.due("the 12th again", x.hedge(30), 12);
        NightHouses y = Check.told("land 2 by 3;cat 0 0;");
        Check.refused(y, "hedge(6)", () -> y.hedge(6));
        Check.due("hedge(5)", y.hedge(5), 1);
    }

    private static void cut() {
        Check.sentence("It is cut: how many there are; NONE, doing nothing, if none is there.");
        NightHouses x = Check.told("land 3 by 2;hedge 2 1;hedge 0 1;house a at 0 0;cat 1 0;");
        Check.due("hedge", x.hedge(2), 3);
        Check.due("cut one as told", x.cut(5), 2);
        Check.due("cut one that was set", x.cut(2), 1);
        Check.due("its cell", x.spot(2, 0), 0);
        Check.due("the last", x.cut(3), 0);
        Check.due("acts", x.about(8), 4);
        x.undo();
        for (int spot : new int[] {0, 1, 2, 4, 5, 6, -1, 36, 64, 67, MOST, LEAST}) {
            Check.refused(x, "cut(" + spot + ")", () -> x.cut(spot));
        }
        Check.due("redo", x.redo(), true);
        Check.refused(x, "cut again", () -> x.cut(3));
    }

    private static NightHouses busy() {
        return Check.told("land 4 by 2;hedge 3 1;house a at 0 0;house b at 2 0;goes 2+which*2;gale 30;draw 3;");
    }

    private static void act(NightHouses x, int i) {
        switch (i % 7) {
            case 0 -> x.step(false);
            case 1 -> x.walk(3);
            case 2 -> x.dawn();
            case 3 -> x.hedge(6);
            case 4 -> x.cut(6);
            case 5 -> x.step(true);
            default -> x.walk(1);
        }
    }

    private static void undo() {
        Check.sentence("UNDO takes back the latest ACT that was not,");
        NightHouses x = busy();
        String[] before = new String[21];
        for (int i = 0; i < 21; i++) {
            before[i] = Sight.world(x);
            act(x, i);
            Check.due("acts", x.about(8), i + 1);
            Check.due("act " + i + " does something", Sight.world(x).equals(before[i]), false);
        }
        for (int i = 20; i >= 0; i--) {
            Check.due("undo", x.undo(), true);
            Check.due("as ahead of act " + i, Sight.world(x), before[i]);
            Check.due("can be undone", x.about(8), i);
            Check.due("can be redone", x.about(9), 21 - i);
        }
        Check.sentence("`boolean undo()`: UNDO: true; false if there is none.");
        String last = Sight.of(x);
        Check.due("undo", x.undo(), false);
        Check.due("nothing", Sight.of(x), last);
        Check.due("of a new object", new NightHouses().undo(), false);
        NightHouses y = busy();
        y.walk(4);
        Check.due("of what was refused", y.undo(), false);
        y.dawn();
        y.walk(4);
        y.hedge(0);
        y.cut(0);
        Check.due("of the one that was not", y.undo(), true);
        Check.due("the night", y.about(6), 0);
        Check.due("no other", y.undo(), false);
    }

    private static void redo() {
        Check.sentence("REDO does that again which was taken back last (till another ACT);");
        NightHouses x = busy();
        String[] behind = new String[14];
        for (int i = 0; i < 14; i++) {
            act(x, i);
            behind[i] = Sight.of(x);
        }
        for (int i = 0; i < 14; i++) {
            x.undo();
        }
        for (int i = 0; i < 14; i++) {
            Check.due("redo", x.redo(), true);
            Check.due("as behind act " + i, Sight.world(x), behind[i].replaceAll(" about[89]=\\d+", ""));
            Check.due("can be undone", x.about(8), i + 1);
            Check.due("can be redone", x.about(9), 13 - i);
        }
        x.undo();
        x.undo();
        x.redo();
        Check.due("in the middle", x.about(8) * 100 + x.about(9), 1301);
        x.walk(4);
        Check.due("till another act, not one refused", x.about(9), 1);
        x.dawn();
        Check.due("till another act", x.redo(), false);
        Check.due("can be undone", x.about(8), 14);
        Check.sentence("`boolean redo()`: REDO: true; false if there is none.");
        String last = Sight.of(x);
        Check.due("redo", x.redo(), false);
        Check.due("nothing", Sight.of(x), last);
        Check.due("of a new object", new NightHouses().redo(), false);
        x.undo();
        x.redo();
        Check.due("all is done again", x.redo(), false);
    }

    private static void forty() {
        Check.sentence("40 at most are kept, the oldest go.");
        NightHouses x = new NightHouses();
        for (int i = 1; i <= 39; i++) {
            x.dawn();
        }
        Check.due("39", x.about(8), 39);
        x.dawn();
        Check.due("40", x.about(8), 40);
        for (int i = 0; i < 40; i++) {
            x.undo();
        }
        Check.due("back to the first", x.about(6), 0);
        for (int i = 0; i < 40; i++) {
            x.redo();
        }
        x.dawn();
        Check.due("41", x.about(8), 40);
        for (int i = 0; i < 40; i++) {
            Check.due("undo", x.undo(), true);
            Check.due("night", x.about(6), 40 - i);
        }
        Check.due("the oldest is gone", x.undo(), false);
        Check.due("night", x.about(6), 1);
        Check.due("to be redone", x.about(9), 40);
        for (int i = 0; i < 40; i++) {
            Check.due("redo", x.redo(), true);
            Check.due("night", x.about(6), 2 + i);
        }
        Check.due("no more", x.redo(), false);
        for (int i = 0; i < 90; i++) {
            x.dawn();
        }
        Check.due("many more", x.about(8), 40);
        Check.due("night", x.about(6), 131);
        x.undo();
        x.undo();
        x.step(false);
        Check.due("2 back, 1 on", x.about(8), 39);
        for (int i = 0; i < 39; i++) {
            Check.due("undo", x.undo(), true);
        }
        Check.due("night", x.about(6), 91);
        Check.due("no more", x.undo(), false);
    }

    private static void image() {
        Check.sentence("are kept in a BOX 0 .. 2: the night; NONE if there is none such.");
        NightHouses x = busy();
        Check.still(x, "image(0)", () -> x.image(0), 0);
        x.dawn();
        Check.still(x, "image(1)", () -> x.image(1), 1);
        x.dawn();
        Check.still(x, "image(2)", () -> x.image(2), 2);
        for (int box : new int[] {3, -1, 32, 33, MOST, LEAST}) {
            Check.refused(x, "image(" + box + ")", () -> x.image(box));
        }
        Check.due("restore(0)", x.restore(0), 0);
        Check.due("restore(2)", x.restore(2), 2);
        Check.due("restore(1)", x.restore(1), 1);
        Check.due("over what was kept", x.image(0), 1);
        Check.due("restore(0)", x.restore(0), 1);
    }

    private static void restore() {
        Check.sentence("All is as it was kept (no ACTS are kept then): the night;");
        NightHouses x = busy();
        for (int i = 0; i < 6; i++) {
            act(x, i);
        }
        x.hedge(5);
        String kept = Sight.world(x);
        Check.due("image(1)", x.image(1), 1);
        for (int i = 0; i < 12; i++) {
            act(x, i);
        }
        x.cut(5);
        x.cut(7);
        x.undo();
        Check.due("acts", x.about(8) > 0 && x.about(9) > 0, true);
        Check.due("not as it was", Sight.world(x).equals(kept), false);
        Check.due("restore(1)", x.restore(1), 1);
        Check.due("as it was", Sight.world(x), kept);
        Check.due("undo", x.undo(), false);
        Check.due("redo", x.redo(), false);
        Check.due("acts", x.about(8) + x.about(9), 0);
        act(x, 0);
        act(x, 2);
        Check.due("once more", x.restore(1), 1);
        Check.due("as it was", Sight.world(x), kept);
        x.later(9);
        x.seen(0, 0, false);
        x.feed(1, 1, 1, 1, 1);
        x.plan(0, 0);
        x.restore(1);
        Check.due("what is not kept stays", x.about(10) * 10000 + x.about(11) * 100 + x.about(12), 10920);
        Check.sentence("NONE, doing nothing, if nothing was.");
        x.dawn();
        x.dawn();
        x.undo();
        for (int box : new int[] {0, 2, 3, -1, 32, 33, MOST, LEAST}) {
            Check.refused(x, "restore(" + box + ")", () -> x.restore(box));
        }
        NightHouses y = new NightHouses();
        for (int box = 0; box < 3; box++) {
            int each = box;
            Check.refused(y, "of a new object: restore(" + box + ")", () -> y.restore(each));
        }
    }
}
