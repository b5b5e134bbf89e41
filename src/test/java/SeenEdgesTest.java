/** Part 4 of the document and promises 41 to 46: each sentence that names an edge, with a test of its own. */
public final class SeenEdgesTest {
    private static final int LEAST = Integer.MIN_VALUE;
    private static final int MOST = Integer.MAX_VALUE;
    private static final int[] NOT_TWO = {2, -1, 3, MOST, LEAST};

    public static void main(String[] args) {
        toldAtATime();
        asTold();
        lastHouse();
        stepsBehind();
        knownAt();
        fitting();
        ask();
        seen();
        seenRefused();
        thirty();
        untell();
        later();
        fits();
        sure();
        askRefused();
        Check.finish();
    }

    private static void toldAtATime() {
        Check.sentence("SEEN, 30 at most, is TOLD at a TIME (0 at first, goes on), UNTOLD at a later one or the same,");
        NightHouses x = Check.told("land 4 by 1;house a at 0 0;");
        Check.due("the time at first", x.about(11), 0);
        x.seen(0, 0, false);
        Check.due("told at 0", x.fits(0), 3);
        Check.due("not ahead of it", x.fits(-1), 4);
        Check.due("untold at the same time", x.untell(0), true);
        Check.due("as if it was never told", x.fits(0), 4);
        x.later(3);
        x.seen(0, 1, false);
        x.later(4);
        x.untell(1);
        int[] due = {4, 4, 4, 3, 3, 3, 3, 4, 4};
        for (int k = 0; k < due.length; k++) {
            Check.due("fits(" + k + ")", x.fits(k), due[k]);
        }
    }

    private static void asTold() {
        Check.sentence("of the land as it was told (no CALLS, no gales, step 0 at first),");
        NightHouses x = Check.told("land 6 by 1;hedge 4 0;house z at 5 0;house a at 0 0;cat 0 0;calls 10;gale 100;draw 5;"
                + "goes which*(2-night*2-(step>1)*2);");
        Check.due("seen", x.seen(2, 3, true), 0);
        int fits = x.fits(0);
        Check.due("from 1, 2, 3", fits, 3);
        Check.due("the least", x.sure(0, 0), 1);
        x.cut(4);
        x.hedge(2);
        x.step(true);
        x.step(false);
        x.dawn();
        x.walk(2);
        Check.due("whatever was done since", x.fits(0), fits);
        Check.due("whatever was done since", x.sure(0, 0) * 10 + x.sure(1, 0), 13);
        x.seen(12, 3, false);
        Check.due("step 0 at first: it stands from the third on", x.fits(0), 0);
        x.image(0);
        x.restore(0);
        Check.due("images do not matter", x.fits(0), 0);
        NightHouses again = Check.told("land 4 by 1;house a at 0 0;goes 2;");
        again.seen(1, 3, true);
        Check.due("the first land: from 2, 3", again.fits(0), 2);
        Check.tape(again, "land 4 by 1;house a at 0 0;goes 4;");
        again.land();
        again.seen(1, 3, true);
        Check.due("the land told last: from none", again.fits(0), 0);
        again.untell(0);
        again.seen(1, 0, true);
        Check.due("the land told last: from 0, 1", again.fits(0) * 10 + again.sure(1, 0), 21);
    }

    private static void lastHouse() {
        Check.sentence("but for the CELL of the last HOUSE at first, which is not known:");
        // b goes on once it has met a, who stays at 1
        NightHouses x = Check.told("land 4 by 1;house a at 1 0;house b at 3 0;goes which*tilt*2;");
        Check.due("any cell at first", x.fits(0), 4);
        x.seen(2, 2, true);
        x.seen(1, 2, false);
        Check.due("only who met a", x.fits(0), 1);
        Check.due("from where a is", x.sure(0, 0), 1);
        NightHouses one = Check.told("land 4 by 1;house a at 1 0;goes 2;");
        one.seen(1, 3, true);
        Check.due("the only one is the last", one.fits(0), 2);
    }

    private static void stepsBehind() {
        Check.sentence("that behind so many STEPS (0 .. 12) it was at a CELL, or was not.");
        NightHouses x = Check.told("land 2 by 1;house a at 0 0;goes (step=11)*2;");
        x.seen(11, 0, true);
        Check.due("behind 11", x.fits(0), 1);
        x.untell(0);
        x.seen(12, 0, false);
        Check.due("behind 12", x.fits(0), 2);
        x.untell(1);
        x.seen(12, 1, false);
        Check.due("behind 12, not", x.fits(0), 0);
        x.untell(2);
        x.seen(0, 0, true);
        Check.due("behind 0", x.fits(0), 1);
        Check.due("behind 0", x.sure(0, 0), 0);
        x.untell(3);
        x.seen(0, 0, false);
        Check.due("behind 0, not", x.sure(0, 0) * 10 + x.fits(0), 11);
    }

    private static void knownAt() {
        Check.sentence("As known at k that counts that was TOLD at k or before, not UNTOLD at k or before.");
        NightHouses x = Check.told("land 4 by 1;house a at 0 0;");
        x.later(10);
        x.seen(0, 0, false);
        x.later(10);
        x.seen(0, 1, false);
        x.untell(0);
        Check.due("at 9", x.fits(9), 4);
        Check.due("at 10", x.fits(10) * 10 + x.sure(0, 10), 31);
        Check.due("at 19", x.fits(19) * 10 + x.sure(0, 19), 31);
        Check.due("at 20", x.fits(20) * 10 + x.sure(0, 20), 30);
        Check.due("at 21", x.fits(21) * 10 + x.sure(0, 21), 30);
        Check.due("at the most", x.fits(MOST), 3);
        Check.due("at the least", x.fits(LEAST), 4);
        Check.due("ask at 19", x.ask(1, 19), 1);
    }

    private static void fitting() {
        Check.sentence("FITS: CELLS (without a hedge as told) by which all that counts is so.");
        NightHouses x = Check.told("land 4 by 1;hedge 0 0;hedge 3 0;house a at 1 0;cat 2 0;");
        Check.due("without hedges", x.fits(0), 2);
        Check.due("the least", x.sure(0, 0), 1);
        Check.due("the greatest", x.sure(1, 0), 2);
        x.cut(0);
        x.cut(3);
        x.walk(2);
        x.hedge(2);
        Check.due("as told", x.fits(0) * 100 + x.sure(0, 0) * 10 + x.sure(1, 0), 212);
        x.seen(3, 1, true);
        Check.due("one", x.fits(0) * 10 + x.sure(0, 0), 11);
        x.seen(3, 2, true);
        Check.due("all that counts", x.fits(0), 0);
        x.untell(0);
        Check.due("the other", x.fits(0) * 10 + x.sure(0, 0), 12);
        Check.due("36 cells", Check.told("house a at 0 0;").fits(0), 36);
    }

    private static void ask() {
        Check.sentence("ASK: the number of STEPS (0 .. 12) behind which to know where it was would leave the fewest of these at the most; of like ones the least.");
        for (String goes : new String[] {"0", "2", "4", "1+step%4", "column", "step*step+row"}) {
            NightHouses x = Check.told("land 4 by 3;hedge 1 1;house z at 0 0;house a at 2 2;goes " + goes + ";");
            Check.due("ask(0, 0) of " + goes, x.ask(0, 0), 0);
            Check.due("ask(1, 0) of " + goes, x.ask(1, 0), 1);
            x.seen(2, 3, false);
            Check.due("ask(0, 0) of " + goes, x.ask(0, 0), 0);
            Check.due("ask(1, 0) of " + goes, x.ask(1, 0), 1);
        }
        NightHouses x = Check.told("land 2 by 1;house a at 0 0;goes 2;");
        x.seen(0, 0, true);
        Check.due("of the first cell alone: ask(0, 0)", x.ask(0, 0), 0);
        Check.due("of the first cell alone: ask(1, 0)", x.ask(1, 0), 1);
        x.untell(0);
        x.seen(0, 1, true);
        Check.due("of the last cell alone: ask(0, 0)", x.ask(0, 0), 0);
        Check.due("of the last cell alone: ask(1, 0)", x.ask(1, 0), 1);
    }

    private static void seen() {
        Check.sentence("A SEEN (STEPS 0 .. 12): its number;");
        NightHouses x = Check.told("land 4 by 1;hedge 3 0;house a at 0 0;");
        Check.due("the first", x.seen(0, 0, false), 0);
        Check.due("the second", x.seen(12, 2, false), 1);
        Check.due("the same again", x.seen(12, 2, false), 2);
        Check.due("at a hedge", x.seen(5, 3, false), 3);
        x.untell(1);
        Check.due("behind one untold", x.seen(0, 3, false), 4);
        Check.due("about(10)", x.about(10), 5);
    }

    private static void seenRefused() {
        Check.sentence("NONE, doing nothing, if one can't be, there are 30, or no HOUSES.");
        NightHouses x = Check.told("land 4 by 1;house a at 0 0;");
        x.seen(0, 0, false);
        for (int steps : new int[] {13, -1, 14, MOST, LEAST}) {
            Check.refused(x, "seen(" + steps + ", 0, true)", () -> x.seen(steps, 0, true));
            Check.refused(x, "seen(" + steps + ", 0, false)", () -> x.seen(steps, 0, false));
        }
        for (int spot : new int[] {4, -1, 5, 35, 36, MOST, LEAST}) {
            Check.refused(x, "seen(0, " + spot + ", true)", () -> x.seen(0, spot, true));
            Check.refused(x, "seen(0, " + spot + ", false)", () -> x.seen(0, spot, false));
        }
        NightHouses none = Check.told("land 4 by 1;");
        Check.refused(none, "without houses", () -> none.seen(0, 0, true));
        NightHouses fresh = new NightHouses();
        Check.refused(fresh, "of a new object", () -> fresh.seen(0, 0, false));
    }

    private static void thirty() {
        Check.sentence("SEEN, 30 at most,");
        NightHouses x = Check.told("land 4 by 1;house a at 0 0;");
        for (int i = 0; i < 30; i++) {
            Check.due("seen", x.seen(i % 13, 3, false), i);
        }
        Check.due("about(10)", x.about(10), 30);
        Check.refused(x, "the 31st", () -> x.seen(0, 3, false));
        Check.due("untell(29)", x.untell(29), true);
        Check.refused(x, "the 31st, one untold", () -> x.seen(0, 3, false));
        Check.tape(x, "land 4 by 1;house a at 0 0;");
        x.land();
        Check.due("behind land()", x.seen(0, 3, false), 0);
    }

    private static void untell() {
        Check.sentence("It is UNTOLD: true; false if it is so already, or there is none such.");
        NightHouses x = Check.told("land 4 by 1;house a at 0 0;");
        Check.due("of none: untell(0)", x.untell(0), false);
        x.seen(0, 0, false);
        x.seen(0, 1, false);
        for (int seen : new int[] {2, -1, 29, 30, 31, MOST, LEAST}) {
            Check.still(x, "untell(" + seen + ")", () -> x.untell(seen) ? 1 : 0, 0);
        }
        Check.due("untell(1)", x.untell(1), true);
        Check.still(x, "untell(1) again", () -> x.untell(1) ? 1 : 0, 0);
        x.later(5);
        Check.still(x, "untell(1) later", () -> x.untell(1) ? 1 : 0, 0);
        Check.due("it is so since it was", x.fits(0) * 10 + x.fits(5), 33);
        Check.due("untell(0)", x.untell(0), true);
        Check.due("both are untold at 5", x.fits(5) * 10 + x.fits(4), 43);
        Check.due("they are counted still", x.about(10), 2);
        NightHouses fresh = new NightHouses();
        Check.due("of a new object", fresh.untell(0), false);
    }

    private static void later() {
        Check.sentence("So much later (0 .. 1000): the TIME; NONE, doing nothing, for another number, or if it would be above 100,000.");
        NightHouses x = Check.told("house a at 0 0;");
        Check.due("later(0)", x.later(0), 0);
        Check.due("later(1)", x.later(1), 1);
        for (int by : new int[] {1001, -1, 1002, MOST, LEAST}) {
            Check.refused(x, "later(" + by + ")", () -> x.later(by));
        }
        for (int i = 1; i < 100; i++) {
            Check.due("later(1000)", x.later(1000), 1 + 1000 * i);
        }
        Check.refused(x, "above 100,000", () -> x.later(1000));
        Check.due("later(998)", x.later(998), 99999);
        Check.refused(x, "above 100,000 by 1", () -> x.later(2));
        Check.due("up to 100,000", x.later(1), 100000);
        Check.refused(x, "above 100,000 by 1", () -> x.later(1));
        Check.due("later(0)", x.later(0), 100000);
        x.seen(0, 0, false);
        Check.due("told at the last time", x.fits(100000) * 100 + x.fits(99999), 3536);
    }

    private static void fits() {
        Check.sentence("FITS: how many (0 without HOUSES).");
        Check.due("of a new object", new NightHouses().fits(0), 0);
        Check.due("without houses", Check.told("land 2 by 2;").fits(0), 0);
        Check.due("of one cell", Check.told("land 1 by 1;house a at 0 0;").fits(0), 1);
        NightHouses x = Check.told("land 2 by 2;house a at 0 0;");
        Check.still(x, "fits(0)", () -> x.fits(0), 4);
        x.seen(0, 0, true);
        x.seen(0, 1, true);
        Check.still(x, "none", () -> x.fits(0), 0);
    }

    private static void sure() {
        Check.sentence("The least of FITS (what 0), the greatest (1); NONE if none FITS, or for another what.");
        NightHouses x = Check.told("house a at 0 0;");
        Check.due("sure(0, 0)", x.sure(0, 0), 0);
        Check.due("sure(1, 0)", x.sure(1, 0), 35);
        x.seen(0, 0, false);
        x.seen(0, 35, false);
        Check.due("sure(0, 0)", x.sure(0, 0), 1);
        Check.due("sure(1, 0)", x.sure(1, 0), 34);
        for (int what : NOT_TWO) {
            Check.refused(x, "sure(" + what + ", 0)", () -> x.sure(what, 0));
        }
        x.seen(0, 7, true);
        Check.due("one: sure(0, 0)", x.sure(0, 0), 7);
        Check.due("one: sure(1, 0)", x.sure(1, 0), 7);
        x.seen(0, 7, false);
        Check.refused(x, "none: sure(0, 0)", () -> x.sure(0, 0));
        Check.refused(x, "none: sure(1, 0)", () -> x.sure(1, 0));
        Check.due("known before: sure(1, -1)", x.sure(1, -1), 35);
        Check.due("without houses: sure(0, 0)", new NightHouses().sure(0, 0), -1);
        Check.due("without houses: sure(1, 0)", new NightHouses().sure(1, 0), -1);
    }

    private static void askRefused() {
        Check.sentence("ASK what 0: the number of STEPS, 1: how many are left at the most; NONE if none FITS, or for another what.");
        NightHouses x = Check.told("land 4 by 1;house a at 0 0;goes 2;");
        Check.still(x, "ask(0, 0)", () -> x.ask(0, 0), 0);
        Check.still(x, "ask(1, 0)", () -> x.ask(1, 0), 1);
        for (int what : NOT_TWO) {
            Check.refused(x, "ask(" + what + ", 0)", () -> x.ask(what, 0));
        }
        x.seen(12, 3, false);
        Check.refused(x, "none: ask(0, 0)", () -> x.ask(0, 0));
        Check.refused(x, "none: ask(1, 0)", () -> x.ask(1, 0));
        Check.due("known before: ask(1, -1)", x.ask(1, -1), 1);
        Check.due("without houses: ask(0, 0)", new NightHouses().ask(0, 0), -1);
        Check.due("without houses: ask(1, 0)", new NightHouses().ask(1, 0), -1);
    }
}
