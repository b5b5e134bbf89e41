/** Promises 1 to 5, and the text of a land: what it tells, and its faults. */
public final class TextTest {
    public static void main(String[] args) {
        newObject();
        feedAndEnd();
        landAnew();
        landRefused();
        tokens();
        cellsAndNames();
        lineSorts();
        numbers();
        toldTwice();
        units();
        depth();
        formulas();
        catNotTold();
        Check.finish();
    }

    private static void newObject() {
        NightHouses x = new NightHouses();
        int[] due = {0, 6, 6, 0, 0, 0, 0, 0, 0, 0, 0, 0, 0, 0, 0, 2, 0};
        for (int what = 0; what < due.length; what++) {
            Check.due("new: about(" + what + ")", x.about(what), due[what]);
        }
        Check.due("about(17)", x.about(17), -1);
        Check.due("about(-1)", x.about(-1), -1);
        Check.due("new: fault(0)", x.fault(0), 0);
        Check.due("new: fault(1)", x.fault(1), -1);
        Check.due("fault(2)", x.fault(2), -1);
        Check.due("fault(-1)", x.fault(-1), -1);
        Check.due("NONE", NightHouses.NONE, -1);
    }

    private static void feedAndEnd() {
        NightHouses x = new NightHouses();
        int cat = 'c' << 24 | 'a' << 16 | 't' << 8 | ' ';
        int place = '1' << 24 | ' ' << 16 | '2' << 8 | ';';
        Check.due("feed", x.feed(cat, place, 0, 0, -1), 20);
        Check.due("end(21)", x.end(21), -1);
        Check.due("end(-1)", x.end(-1), -1);
        Check.due("about(12)", x.about(12), 20);
        Check.due("end(8)", x.end(8), 8);
        Check.due("end(9)", x.end(9), -1);
        Check.due("land()", x.land(), 0);
        Check.due("the cat", x.about(4), 13);
        Check.due("about(12)", x.about(12), 0);
        for (int i = 1; i <= 80; i++) {
            Check.due("feed", x.feed(i, 0, -1, 7, 7), 20 * i);
        }
        Check.due("feed beyond 1600", x.feed(0, 0, 0, 0, 0), -1);
        Check.due("about(12)", x.about(12), 1600);
        Check.due("end(1581)", x.end(1581), 1581);
        Check.due("feed beyond 1600", x.feed(0, 0, 0, 0, 0), -1);
        Check.due("end(1580)", x.end(1580), 1580);
        Check.due("feed up to 1600", x.feed(0, 0, 0, 0, 0), 1600);
        Check.due("end(0)", x.end(0), 0);
        Check.due("land() of nothing", x.land(), 0);
        Check.due("its fault", x.fault(0), 0);
    }

    private static NightHouses busy() {
        NightHouses x = Check.told("land 3 by 2;house a at 0 0;house b at 2 1;goes 2;calls 4;gale 9;draw 5;");
        x.later(7);
        x.seen(0, 0, true);
        x.plan(0, 0);
        x.plan(1, 3);
        x.step(false);
        x.dawn();
        x.undo();
        x.image(1);
        return x;
    }

    private static void landAnew() {
        NightHouses x = busy();
        Check.tape(x, "land 2 by 4;\nhedge 0 0;hedge 1 3;house oak at 1 0;cat 0 2;gale 20;draw 31;goes (1 + 2) * step;");
        Check.due("land()", x.land(), 1);
        int[] due = {1, 2, 4, 2, 4, 0, 0, 31, 0, 0, 0, 7, 0, 4, 0, 2, 20};
        for (int what = 0; what < due.length; what++) {
            Check.due("land(): about(" + what + ")", x.about(what), due[what]);
        }
        Check.due("undo()", x.undo(), false);
        Check.due("redo()", x.redo(), false);
        Check.due("restore(1)", x.restore(1), -1);
        Check.due("house(0, 0)", x.house(0, 0), 1);
        Check.due("house(0, 2)", x.house(0, 2), 0);
        Check.due("house(0, 3)", x.house(0, 3), 0);
        Check.due("untell(0)", x.untell(0), false);
        Check.due("fits(7)", x.fits(7), 6);
    }

    private static void landRefused() {
        NightHouses x = busy();
        int[] before = new int[17];
        for (int what = 0; what < 17; what++) {
            before[what] = x.about(what);
        }
        Check.tape(x, "house c at 1 1;draw 1000;");
        Check.due("land() with a fault", x.land(), -1);
        Check.due("fault(0)", x.fault(0), 4);
        Check.due("fault(1)", x.fault(1), 20);
        before[12] = 25;
        for (int what = 0; what < 17; what++) {
            Check.due("behind a fault: about(" + what + ")", x.about(what), before[what]);
        }
        Check.due("redo()", x.redo(), true);
        Check.due("restore(1)", x.restore(1), 0);
        Check.due("end(15)", x.end(15), 15);
        Check.due("land() of its rest", x.land(), 1);
        Check.due("fault(0)", x.fault(0), 0);
        Check.due("fault(1)", x.fault(1), -1);
    }

    private static void tokens() {
        Check.fault("!", 1, 0);
        Check.fault("A", 1, 0);
        Check.fault("draw 1;\t", 1, 7);
        Check.fault("draw 1;" + (char) 0, 1, 7);
        Check.fault("draw 1;" + (char) 200, 1, 7);
        Check.fault("draw 1;`", 1, 7);
        Check.fault("draw 1;{", 1, 7);
        Check.fault("abcdefgh", 2, 0);
        Check.fault("abcdefghi", 1, 0);
        Check.fault("house abcdefghi at 0 0;", 1, 6);
        Check.fault("draw 10000;", 1, 5);
        Check.fault("draw 1x;", 1, 5);
        Check.fault("land 3by 3;", 1, 5);
        Check.fault("goes 1 #", 1, 7);
        Check.fault("goes 1 + #", 1, 9);
        Check.fault("calls 11;!", 4, 6);
        Check.fault("drawdraw 1;", 2, 0);
        Check.due("words and signs close together", Check.told("\n house abcdefgh at0 0;draw0007;goes(1)and not 2 ;").about(7), 7);
    }

    private static void cellsAndNames() {
        Check.fault("hedge 1 1;hedge 1 1;", 3, 18);
        Check.fault("house a at 1 1;hedge 1 1;", 3, 23);
        Check.fault("cat 1 1;hedge 1 1;", 3, 16);
        Check.fault("hedge 1 1;house a at 1 1;", 3, 23);
        Check.fault("hedge 1 1;cat 1 1;", 3, 16);
        Check.fault("house a at 0 0;house a at 1 1;", 3, 21);
        Check.fault("house a at 0 0;house a 1;", 3, 21);
        Check.fault("land 2 by 3;hedge 2 0;", 4, 18);
        Check.fault("land 2 by 3;hedge 0 3;", 4, 20);
        Check.fault("land 2 by 3;house a at 2 0;", 4, 23);
        Check.fault("land 2 by 3;house a at 1 3;", 4, 25);
        Check.fault("cat 6 0;", 4, 4);
        Check.fault("cat 0 6;", 4, 6);
        Check.due("several at one cell, the cat, too",
                Check.told("house a at 1 1;house b at 1 1;house ab at 1 1;cat 1 1;").spot(7, 1), 7);
        Check.due("a hedge where the cat would stand", Check.told("hedge 0 0;").about(4), 1);
    }

    private static void lineSorts() {
        Check.fault(";", 2, 0);
        Check.fault("at", 2, 0);
        Check.fault("7", 2, 0);
        Check.fault("land 3 by 3", 2, 11);
        Check.fault("land 3 by 3  \n", 2, 14);
        Check.fault("land 3 at 3;", 2, 7);
        Check.fault("draw 1;land 1 by 1;", 2, 7);
        Check.fault("land 1 by 1;land 1 by 1;", 2, 12);
        Check.fault("cat 0 0;cat 0 0;", 2, 8);
        Check.fault("goes 1;goes 1;", 2, 7);
        Check.fault("calls 1;calls 1;", 2, 8);
        Check.fault("gale 1;gale 1;", 2, 7);
        Check.fault("draw 1;draw 1;", 2, 7);
        Check.fault("house land at 0 0;", 2, 6);
        Check.fault("house tilt at 0 0;", 2, 6);
        Check.fault("house 1 at 0 0;", 2, 6);
        Check.fault("house a by 0 0;", 2, 8);
        Check.fault("hedge a 0;", 2, 6);
        Check.fault("hedge 0 0 0;", 2, 10);
        StringBuilder hedges = new StringBuilder();
        StringBuilder houses = new StringBuilder();
        for (int i = 0; i < 8; i++) {
            hedges.append("hedge ").append(i % 6).append(' ').append(i / 6).append(';');
        }
        for (int i = 0; i < 5; i++) {
            houses.append("house ").append((char) ('a' + i)).append(" at 5 5;");
        }
        Check.due("8 hedges", Check.told(hedges.toString()).about(3), 8);
        Check.fault(hedges + "hedge 5 5;", 2, 80);
        Check.due("5 houses", Check.told(houses.toString()).about(0), 5);
        Check.fault(houses + "house f at 0 0;", 2, 75);
    }

    private static void numbers() {
        Check.fault("land 0 by 3;", 4, 5);
        Check.fault("land 7 by 3;", 4, 5);
        Check.fault("land 3 by 0;", 4, 10);
        Check.fault("land 3 by 7;", 4, 10);
        Check.fault("calls 11;", 4, 6);
        Check.fault("gale 101;", 4, 5);
        Check.fault("draw 1000;", 4, 5);
        NightHouses x = Check.told("land 6 by 1;calls 10;gale 100;draw 999;");
        Check.due("about(1)", x.about(1), 6);
        Check.due("about(2)", x.about(2), 1);
        Check.due("about(15)", x.about(15), 10);
        Check.due("about(16)", x.about(16), 100);
        Check.due("about(7)", x.about(7), 999);
    }

    private static void toldTwice() {
        NightHouses x = Check.told("land 2 by 2;hedge 1 1;house a at 0 0;cat 1 0;goes 3;calls 1;gale 7;draw 9;");
        x.step(false);
        x.dawn();
        for (int i = 0; i < 3; i++) {
            Check.tape(x, "house a at 1 0;hedge 0 0;cat 2 0;calls 0;gale 0;draw 0;goes 0;");
            Check.due("told again", x.land(), 1);
        }
        Check.tape(x, "house b at 0 0;");
        Check.due("told less", x.land(), 1);
        int[] due = {1, 6, 6, 0, 0, 0, 0, 0, 0, 0, 0, 0, 0, 0, 0, 2, 0};
        for (int what = 0; what < due.length; what++) {
            Check.due("told less: about(" + what + ")", x.about(what), due[what]);
        }
        Check.due("house(0, 3)", x.house(0, 3), 0);
        Check.due("house(0, 4)", x.house(0, 4), 0);
    }

    private static void units() {
        String ones = "1+".repeat(29);
        Check.due("30 units", Check.told("goes " + ones + "1;").about(13), 30);
        Check.fault("goes " + ones + "1+1;", 2, 65);
        Check.fault("goes " + ones + "(1);", 2, 64);
        Check.due("a unit in brackets is two", Check.told("goes (1);").about(13), 2);
        Check.fault("goes ;", 2, 5);
        Check.fault("goes 1<2<3;", 2, 8);
        Check.fault("goes (1;", 2, 7);
        Check.fault("goes ();", 2, 6);
        Check.fault("goes 1);", 2, 6);
        Check.fault("goes 1 not 2;", 2, 7);
        Check.fault("goes 1 + not 2;", 2, 9);
        Check.fault("goes -1;", 2, 5);
        Check.fault("goes a;", 2, 5);
        Check.fault("goes 1 and;", 2, 10);
        Check.fault("goes 1 or", 2, 9);
    }

    private static void depth() {
        Check.due("7 brackets", Check.told("goes (((((((1)))))));").about(13), 8);
        Check.fault("goes ((((((((1))))))));", 2, 12);
        Check.due("7 nots", Check.told("goes " + "not ".repeat(7) + "1;").about(13), 1);
        Check.fault("goes " + "not ".repeat(8) + "1;", 2, 33);
        Check.due("3 nots, 4 brackets", Check.told("goes not(not(not((1))));").about(13), 5);
        Check.fault("goes not(not(not((not 1))));", 2, 18);
        Check.fault("goes not(not(not(((1)))));", 2, 18);
        Check.due("brackets one behind another", Check.told("goes (((((((1)))))))+((((((1))))));").about(13), 15);
        String nots = "not not not not not not not ";
        Check.due("nots in plenty", Check.told("goes " + (nots + "1 and ").repeat(29) + nots + "1;").about(13), 30);
    }

    private static int comes(String formula) {
        return Check.told("house z at 0 0;house a at 3 2;goes " + formula + ";").house(1, 4);
    }

    private static void formulas() {
        String[] all = {"7 2", "0-1 4", "7/2 3", "(0-7)/2 2", "(0-7)%3 4", "7/0 0", "7%0 0", "7%4 3", "2<3 1", "3<2 0", "3<3 0",
            "3>2 1", "2>3 0", "3=3 1", "3=2 0", "not(3) 0", "not(0) 1", "2 and(3) 1", "2 and(0) 0", "0 or(7) 1", "0 or(0) 0",
            "1+2*3 2", "10-3-4 3", "16/4/2 2", "17%7%2 1", "2*7%5*2 3", "column*10+row 2", "column 3", "row 2", "which 1",
            "step 0", "night 0", "tilt 0", "1 or(0)and(0) 1", "(1 or(0))and(0) 0", "1+1<3 1", "2*(3+4) 4", "3+(2<3) 4"};
        for (String each : all) {
            int at = each.lastIndexOf(' ');
            Check.due(each, comes(each.substring(0, at)), Integer.parseInt(each.substring(at + 1)));
        }
        Check.due("not a < b", comes("not 1 < 0"), 1);
        Check.due("not not", comes("not not 5"), 1);
        Check.due("not binds closer than and", comes("not 0 and 0"), 0);
        Check.due("wrapping", comes("9999*9999*9999"), Math.floorMod(9999 * 9999 * 9999, 5));
        Check.due("not told", Check.told("house a at 3 2;").house(0, 4), 0);
    }

    private static void catNotTold() {
        Check.due("first cell without a hedge",
                Check.told("land 2 by 3;hedge 0 0;hedge 1 0;hedge 0 1;").about(4), 3);
        Check.due("at the end of all", Check.told("house a at 1 0;hedge 0 0;").about(4), 1);
        NightHouses x = Check.told("land 2 by 4;hedge 0 0;hedge 1 0;hedge 0 1;hedge 1 1;hedge 0 2;hedge 1 2;hedge 0 3;hedge 1 3;");
        Check.due("no cell without a hedge", x.about(4), 0);
        Check.due("way(0)", x.way(0), 0);
        Check.due("realm()", x.realm(), 1);
        Check.due("post(1, 0)", x.post(1, 0), -1);
        Check.due("post(1, 1)", x.post(1, 1), -1);
        Check.due("cut(1)", x.cut(1), 7);
        Check.due("walk(2)", x.walk(2), 1);
        Check.due("walk(4)", x.walk(4), -1);
    }
}
