/** Promises 41 to 46: where the last house stood at first. */
public final class SeenTest {
    public static void main(String[] args) {
        tellAndFit();
        twoTimes();
        manySeen();
        timeHasAnEnd();
        asTold();
        othersMatter();
        nothingThere();
        Check.finish();
    }

    private static void tellAndFit() {
        // behind s steps it is at the lesser of 3 and x + s
        NightHouses x = Check.told("land 4 by 1;house z at 0 0;house a at 0 0;goes which*2;");
        Check.due("fits(0)", x.fits(0), 4);
        Check.due("sure(0, 0)", x.sure(0, 0), 0);
        Check.due("sure(1, 0)", x.sure(1, 0), 3);
        Check.due("sure(2, 0)", x.sure(2, 0), -1);
        Check.due("sure(-1, 0)", x.sure(-1, 0), -1);
        Check.due("ask(0, 0)", x.ask(0, 0), 0);
        Check.due("ask(1, 0)", x.ask(1, 0), 1);
        Check.due("ask(2, 0)", x.ask(2, 0), -1);
        Check.due("ask(-1, 0)", x.ask(-1, 0), -1);
        Check.due("seen(13, 0, true)", x.seen(13, 0, true), -1);
        Check.due("seen(-1, 0, true)", x.seen(-1, 0, true), -1);
        Check.due("seen(0, 4, true)", x.seen(0, 4, true), -1);
        Check.due("seen(0, -1, true)", x.seen(0, -1, true), -1);
        Check.due("about(10)", x.about(10), 0);
        Check.due("seen(2, 3, true)", x.seen(2, 3, true), 0);
        Check.due("fits(0)", x.fits(0), 3);
        Check.due("sure(0, 0)", x.sure(0, 0), 1);
        Check.due("seen(1, 3, false)", x.seen(1, 3, false), 1);
        Check.due("fits(0)", x.fits(0), 1);
        Check.due("sure(0, 0)", x.sure(0, 0), 1);
        Check.due("sure(1, 0)", x.sure(1, 0), 1);
        Check.due("seen(12, 3, false)", x.seen(12, 3, false), 2);
        Check.due("fits(0)", x.fits(0), 0);
        Check.due("sure(0, 0)", x.sure(0, 0), -1);
        Check.due("ask(0, 0)", x.ask(0, 0), -1);
        Check.due("untell(2)", x.untell(2), true);
        Check.due("fits(0)", x.fits(0), 1);
        Check.due("about(10)", x.about(10), 3);
    }

    private static void twoTimes() {
        NightHouses x = Check.told("land 3 by 1;house a at 0 0;goes 2;");
        Check.due("later(5)", x.later(5), 5);
        Check.due("seen(0, 1, false)", x.seen(0, 1, false), 0);
        Check.due("later(2)", x.later(2), 7);
        Check.due("untell(0)", x.untell(0), true);
        Check.due("untell(0) again", x.untell(0), false);
        Check.due("untell(1)", x.untell(1), false);
        Check.due("untell(-1)", x.untell(-1), false);
        int[] due = {3, 3, 3, 3, 3, 2, 2, 3, 3};
        for (int k = 0; k < due.length; k++) {
            Check.due("fits(" + k + ")", x.fits(k), due[k]);
        }
        Check.due("fits(-1)", x.fits(-1), 3);
        Check.due("fits(least)", x.fits(Integer.MIN_VALUE), 3);
        Check.due("fits(most)", x.fits(Integer.MAX_VALUE), 3);
        Check.due("seen(0, 0, false)", x.seen(0, 0, false), 1);
        Check.due("sure(0, 6)", x.sure(0, 6), 0);
        Check.due("sure(0, 7)", x.sure(0, 7), 1);
        Check.due("untell(1) at the same time", x.untell(1), true);
        Check.due("sure(0, 7)", x.sure(0, 7), 0);
    }

    private static void manySeen() {
        NightHouses x = Check.told("land 3 by 1;house a at 0 0;");
        for (int i = 0; i < 30; i++) {
            Check.due("seen", x.seen(i % 13, 2, false), i);
        }
        Check.due("seen, the 31st", x.seen(0, 2, false), -1);
        Check.due("untell(3)", x.untell(3), true);
        Check.due("seen, the 31st", x.seen(0, 2, false), -1);
        Check.due("about(10)", x.about(10), 30);
        Check.due("fits(0)", x.fits(0), 2);
    }

    private static void timeHasAnEnd() {
        NightHouses x = new NightHouses();
        Check.due("later(0)", x.later(0), 0);
        Check.due("later(-1)", x.later(-1), -1);
        Check.due("later(1001)", x.later(1001), -1);
        for (int i = 1; i <= 99; i++) {
            x.later(1000);
        }
        Check.due("later(999)", x.later(999), 99999);
        Check.due("later(2)", x.later(2), -1);
        Check.due("about(11)", x.about(11), 99999);
        Check.due("later(1)", x.later(1), 100000);
        Check.due("later(1)", x.later(1), -1);
        Check.due("later(0)", x.later(0), 100000);
    }

    private static void asTold() {
        NightHouses x = Check.told("land 4 by 1;hedge 2 0;house a at 0 0;cat 0 0;calls 9;gale 100;draw 5;goes 2-night-step/3;");
        Check.due("without hedges as told", x.fits(0), 3);
        x.cut(2);
        x.dawn();
        x.step(true);
        Check.due("fits(0)", x.fits(0), 3);
        Check.due("seen(1, 1, true)", x.seen(1, 1, true), 0);
        Check.due("fits(0)", x.fits(0), 2);
        Check.due("sure(1, 0)", x.sure(1, 0), 1);
        Check.due("a hedge's cell", x.seen(0, 2, true), 1);
        Check.due("fits(0)", x.fits(0), 0);
    }

    private static void othersMatter() {
        // who was met goes on, who was not stays: only from cell 1 it is elsewhere behind two steps
        NightHouses x = Check.told("land 4 by 1;house a at 1 0;house b at 3 0;goes which*tilt*2;");
        Check.due("seen(2, 2, true)", x.seen(2, 2, true), 0);
        Check.due("seen(1, 2, false)", x.seen(1, 2, false), 1);
        Check.due("fits(0)", x.fits(0), 1);
        Check.due("sure(0, 0)", x.sure(0, 0), 1);
    }

    private static void nothingThere() {
        NightHouses x = new NightHouses();
        Check.due("seen(0, 0, true)", x.seen(0, 0, true), -1);
        Check.due("fits(0)", x.fits(0), 0);
        Check.due("sure(0, 0)", x.sure(0, 0), -1);
        Check.due("ask(0, 0)", x.ask(0, 0), -1);
        Check.due("untell(0)", x.untell(0), false);
    }
}
