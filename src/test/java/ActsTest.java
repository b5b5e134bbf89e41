/** Promises 8 to 14, 47 and 48: acts, undone and done again, and images. */
public final class ActsTest {
    public static void main(String[] args) {
        goingAndMeeting();
        coming();
        gales();
        tiltHasAnEnd();
        stepsHaveAnEnd();
        walks();
        dawns();
        hedges();
        undone();
        fortyKept();
        images();
        Check.finish();
    }

    private static void goingAndMeeting() {
        NightHouses x = Check.told("land 3 by 1;house a at 0 0;house b at 2 0;goes 2+which*2;");
        Check.due("step", x.step(false), 3);
        Check.due("house(0, 0)", x.house(0, 0), 1);
        Check.due("house(1, 0)", x.house(1, 0), 1);
        Check.due("house(0, 2)", x.house(0, 2), 1);
        Check.due("step", x.step(false), 0);
        Check.due("house(0, 0)", x.house(0, 0), 2);
        Check.due("house(1, 0)", x.house(1, 0), 0);
        Check.due("off the land one stays", x.step(false) + x.house(0, 0), 2);
        Check.due("about(5)", x.about(5), 3);
        NightHouses y = Check.told("land 2 by 2;hedge 1 0;house a at 0 0;goes 2-step;");
        y.step(false);
        Check.due("into a hedge one stays", y.house(0, 0), 0);
        y.step(false);
        Check.due("off the land one stays", y.house(0, 0), 0);
        Check.due("step is 2", y.house(0, 4), 0);
        NightHouses z = Check.told("house a at 1 1;house b at 1 1;house c at 1 1;house d at 4 4;goes tilt+night*2;");
        Check.due("once, however many", z.step(false) * 10 + z.house(0, 2), 71);
        Check.due("by tilt", z.house(0, 4), 1);
        z.dawn();
        Check.due("by night", z.house(0, 4), 3);
        NightHouses all = Check.told("land 3 by 3;house a at 1 1;goes step;");
        int[] due = {4, 1, 2, 5, 4};
        for (int i = 0; i < 5; i++) {
            all.step(false);
            Check.due("way " + i, all.house(0, 0), due[i]);
        }
    }

    private static void coming() {
        String open = "land 5 by 5;cat 2 2;calls 4;goes 3;house a at 0 0;";
        Check.due("in its column's way", called(open), 1);
        Check.due("in its row's way", called(open + "hedge 1 0;"), 5);
        Check.due("that leads nowhere", called(open + "hedge 1 0;hedge 0 1;"), 0);
        Check.due("too far", called("land 5 by 5;cat 2 2;calls 3;goes 3;house a at 0 0;"), 5);
        Check.due("from the right", called("land 5 by 5;cat 2 2;goes 0;house a at 4 2;"), 13);
        Check.due("from below", called("land 5 by 5;cat 2 2;goes 0;house a at 2 4;"), 17);
        Check.due("from above", called("land 5 by 5;cat 2 2;goes 0;house a at 2 0;"), 7);
        Check.due("in her column behind a hedge", called("land 5 by 5;cat 2 2;goes 2;hedge 2 1;house a at 2 0;"), 2);
        Check.due("in her row behind a hedge", called("land 5 by 5;cat 2 2;goes 1;hedge 1 2;house a at 0 2;"), 10);
        Check.due("at her cell", called("land 5 by 5;cat 2 2;calls 0;goes 2;house a at 2 2;"), 12);
        NightHouses x = Check.told(open);
        x.step(false);
        Check.due("not called", x.house(0, 0), 5);
    }

    private static int called(String text) {
        NightHouses x = Check.told(text);
        x.step(true);
        return x.house(0, 0);
    }

    private static void gales() {
        // 5 * 137 + 71 = 756: its rest is 56
        Check.due("gale 57", galed("gale 57;"), 2);
        Check.due("gale 56", galed("gale 56;"), 1);
        NightHouses x = Check.told("land 6 by 1;house a at 0 0;house b at 0 0;goes 2-column*2;gale 100;draw 5;");
        Check.due("by its cell then", x.step(false) * 10 + x.house(0, 0), 31);
        Check.due("a draw a house", x.about(7), (756 * 137 + 71) % 1000);
        NightHouses y = Check.told("land 6 by 1;house a at 0 0;goes 2-step*2;gale 100;");
        y.step(false);
        Check.due("step as ahead", y.house(0, 0), 2);
        NightHouses z = Check.told("land 6 by 1;house a at 3 0;cat 0 0;calls 9;goes 2;gale 100;");
        z.step(true);
        Check.due("comes, then goes", z.house(0, 0), 3);
        NightHouses t = Check.told("land 6 by 1;house a at 0 0;house b at 2 0;goes 2+which*2-tilt*2;gale 100;");
        t.step(false);
        Check.due("tilt comes behind the gale", t.house(0, 0) * 10 + t.house(1, 0), 20);
        Check.due("and is for who is together then", t.house(0, 2), 0);
        NightHouses still = Check.told("house a at 0 0;draw 9;");
        still.step(false);
        Check.due("the seed goes on without gales", still.about(7), (9 * 137 + 71) % 1000);
    }

    private static int galed(String gale) {
        NightHouses x = Check.told("land 6 by 1;house a at 0 0;goes 2;draw 5;" + gale);
        x.step(false);
        Check.due("about(7)", x.about(7), 756);
        return x.house(0, 0);
    }

    private static void tiltHasAnEnd() {
        NightHouses x = Check.told("house a at 0 0;house b at 0 0;");
        for (int i = 1; i <= 101; i++) {
            Check.due("step", x.step(false), 3);
            Check.due("house(1, 2)", x.house(1, 2), Math.min(99, i));
        }
        Check.due("quarrels(60)", x.quarrels(60), 0);
    }

    private static void stepsHaveAnEnd() {
        NightHouses x = new NightHouses();
        for (int i = 0; i < 999; i++) {
            x.step(false);
        }
        Check.due("step behind 999", x.step(false), -1);
        Check.due("about(5)", x.about(5), 999);
        Check.due("dawn", x.dawn(), 0);
        Check.due("step", x.step(false), 0);
        NightHouses y = new NightHouses();
        for (int i = 0; i < 999; i++) {
            y.dawn();
        }
        Check.due("dawn behind 999", y.dawn(), -1);
        Check.due("about(6)", y.about(6), 999);
    }

    private static void walks() {
        NightHouses x = Check.told("land 2 by 2;hedge 1 1;cat 0 0;");
        Check.due("walk(1)", x.walk(1), -1);
        Check.due("walk(4)", x.walk(4), -1);
        Check.due("walk(2)", x.walk(2), 1);
        Check.due("walk(3) into a hedge", x.walk(3), -1);
        Check.due("walk(4)", x.walk(4), 0);
        Check.due("walk(3)", x.walk(3), 2);
        Check.due("walk(1)", x.walk(1), 0);
        Check.due("walk(0)", x.walk(0), -1);
        Check.due("walk(5)", x.walk(5), -1);
        Check.due("walk(-1)", x.walk(-1), -1);
        Check.due("about(8)", x.about(8), 4);
        Check.due("about(4)", x.about(4), 0);
    }

    private static void dawns() {
        NightHouses x = Check.told("land 3 by 1;house a at 0 0;house b at 2 0;goes 2;draw 4;");
        x.step(false);
        int seed = x.about(7);
        Check.due("dawn", x.dawn(), 1);
        Check.due("about(5)", x.about(5), 0);
        Check.due("about(6)", x.about(6), 1);
        Check.due("about(7)", x.about(7), seed);
        Check.due("house(0, 0)", x.house(0, 0), 1);
        Check.due("house(0, 3)", x.house(0, 3), 1);
        Check.due("house(1, 3)", x.house(1, 3), 0);
        for (int i = 0; i < 100; i++) {
            Check.due("dawn", x.dawn(), 1);
        }
        Check.due("house(0, 3)", x.house(0, 3), 99);
    }

    private static void hedges() {
        NightHouses x = Check.told("hedge 5 5;house a at 0 0;cat 1 0;goes 3;");
        Check.due("at a house", x.hedge(0), -1);
        Check.due("at the cat", x.hedge(1), -1);
        Check.due("at a hedge", x.hedge(35), -1);
        Check.due("at no cell", x.hedge(36), -1);
        Check.due("at no cell", x.hedge(-1), -1);
        Check.due("about(8)", x.about(8), 0);
        x.step(false);
        Check.due("at a home whose house is gone", x.hedge(0), 2);
        for (int i = 3; i <= 12; i++) {
            Check.due("hedge", x.hedge(20 + i), i);
        }
        Check.due("beyond 12", x.hedge(10), -1);
        Check.due("about(3)", x.about(3), 12);
        Check.due("cut where none is", x.cut(10), -1);
        Check.due("cut at no cell", x.cut(36), -1);
        Check.due("cut at no cell", x.cut(-1), -1);
        Check.due("cut", x.cut(35), 11);
        Check.due("cut again", x.cut(35), -1);
        Check.due("spot(35, 0)", x.spot(35, 0), 0);
        Check.due("hedge", x.hedge(10), 12);
        Check.due("about(8)", x.about(8), 14);
    }

    private static void undone() {
        NightHouses x = Check.told("land 4 by 2;house a at 0 0;house b at 2 0;goes 2+which*2;gale 30;draw 3;");
        Check.due("undo() of nothing", x.undo(), false);
        Check.due("redo() of nothing", x.redo(), false);
        x.step(false);
        int seed = x.about(7);
        x.walk(3);
        x.dawn();
        x.hedge(7);
        x.cut(7);
        Check.due("about(8)", x.about(8), 5);
        Check.due("undo cut", x.undo(), true);
        Check.due("about(3)", x.about(3), 1);
        Check.due("undo hedge", x.undo(), true);
        Check.due("about(3)", x.about(3), 0);
        Check.due("undo dawn", x.undo(), true);
        Check.due("about(6)", x.about(6), 0);
        Check.due("about(5)", x.about(5), 1);
        Check.due("house(0, 3)", x.house(0, 3), 0);
        Check.due("undo walk", x.undo(), true);
        Check.due("about(4)", x.about(4), 0);
        Check.due("about(9)", x.about(9), 4);
        Check.due("undo step", x.undo(), true);
        Check.due("about(7)", x.about(7), 3);
        Check.due("house(0, 0)", x.house(0, 0), 0);
        Check.due("undo beyond", x.undo(), false);
        Check.due("redo step", x.redo(), true);
        Check.due("about(7)", x.about(7), seed);
        Check.due("redo walk", x.redo(), true);
        Check.due("about(4)", x.about(4), 4);
        Check.due("about(8)", x.about(8), 2);
        Check.due("about(9)", x.about(9), 3);
        Check.due("what can't be is no act", x.walk(3), -1);
        Check.due("about(9)", x.about(9), 3);
        Check.due("another act", x.walk(1), 0);
        Check.due("about(9)", x.about(9), 0);
        Check.due("redo", x.redo(), false);
        Check.due("about(8)", x.about(8), 3);
    }

    private static void fortyKept() {
        NightHouses x = new NightHouses();
        for (int i = 0; i < 45; i++) {
            x.dawn();
        }
        Check.due("about(8)", x.about(8), 40);
        for (int i = 0; i < 40; i++) {
            Check.due("undo", x.undo(), true);
            Check.due("about(6)", x.about(6), 44 - i);
        }
        Check.due("undo the 41st", x.undo(), false);
        Check.due("about(6)", x.about(6), 5);
        Check.due("about(9)", x.about(9), 40);
        for (int i = 0; i < 40; i++) {
            Check.due("redo", x.redo(), true);
            Check.due("about(6)", x.about(6), 6 + i);
        }
        Check.due("redo the 41st", x.redo(), false);
        x.undo();
        x.undo();
        x.dawn();
        Check.due("about(8)", x.about(8), 39);
        Check.due("about(6)", x.about(6), 44);
    }

    private static void images() {
        NightHouses x = Check.told("land 4 by 1;house a at 0 0;house b at 0 0;goes 2;draw 8;");
        Check.due("image(-1)", x.image(-1), -1);
        Check.due("image(3)", x.image(3), -1);
        Check.due("restore(0) of nothing", x.restore(0), -1);
        Check.due("restore(-1)", x.restore(-1), -1);
        Check.due("restore(3)", x.restore(3), -1);
        x.step(false);
        x.dawn();
        x.walk(2);
        x.hedge(3);
        x.step(false);
        int seed = x.about(7);
        Check.due("image(2)", x.image(2), 1);
        x.step(false);
        x.dawn();
        x.walk(4);
        x.cut(3);
        Check.due("restore(2)", x.restore(2), 1);
        int[] about = {2, 4, 1, 1, 1, 1, 1, seed, 0, 0};
        for (int what = 0; what < about.length; what++) {
            Check.due("restored: about(" + what + ")", x.about(what), about[what]);
        }
        Check.due("house(0, 0)", x.house(0, 0), 2);
        Check.due("house(0, 2)", x.house(0, 2), 2);
        Check.due("house(0, 3)", x.house(0, 3), 1);
        Check.due("undo", x.undo(), false);
        x.dawn();
        Check.due("once more", x.restore(2), 1);
        Check.due("about(6)", x.about(6), 1);
        Check.due("restore(1)", x.restore(1), -1);
        x.dawn();
        Check.due("image(0)", x.image(0), 2);
        x.dawn();
        Check.due("restore(0)", x.restore(0), 2);
        Check.due("restore(2)", x.restore(2), 1);
        Check.due("restore(3)", x.restore(3), -1);
    }
}
