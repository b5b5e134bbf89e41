/** The text of a land and promises 1 to 5: each sentence of the document that names an edge, with a test of its own. */
public final class TextEdgesTest {
    private static final String[] WORDS = {"land", "by", "hedge", "house", "at", "cat", "goes", "calls", "gale", "draw",
        "or", "and", "not", "which", "step", "column", "row", "tilt", "night"};
    private static final String[] OTHER_LINES = {"hedge 5 5;", "house a at 5 5;", "cat 5 5;", "goes 1;", "calls 1;",
        "gale 1;", "draw 1;"};
    private static final String SIGNS = ";()<>=+-*/%";

    public static void main(String[] args) {
        bytes();
        words();
        numbers();
        signs();
        blanks();
        longest();
        letterBehindNumber();
        names();
        grammar();
        size();
        landOnce();
        cells();
        hedges();
        houses();
        cat();
        catNotTold();
        otherLines();
        onceEach();
        units();
        nesting();
        firstByPlace();
        theEnd();
        leastAtOnePlace();
        placesOfFaultTwo();
        faultThree();
        faultFour();
        newObject();
        feed();
        feedTooMuch();
        end();
        endRefused();
        land();
        landKeepsTime();
        landRefused();
        fault();
        Check.finish();
    }

    private static String blank(int count) {
        return " ".repeat(count);
    }

    private static void bytes() {
        Check.sentence("A LAND is a text of at most 1,600 bytes (empty at first)");
        Check.due("bytes of a new object", new NightHouses().about(12), 0);
        Check.due("an empty text", Check.good("", 0).about(1), 6);
        String most = "house a at 5 5;calls" + blank(1578) + "7;";
        Check.due("its bytes", most.length(), 1600);
        Check.due("calls of 1600 bytes", Check.good(most, 1).about(15), 7);
        Check.fault("calls" + blank(1593) + "7 ", 2, 1600);
        Check.fault("calls 7;" + blank(1591) + "!", 1, 1599);
        StringBuilder lines = new StringBuilder();
        for (int i = 0; i < 1600; i++) {
            lines.append(i % 2 == 0 ? '\n' : ' ');
        }
        Check.good(lines.toString(), 0);
    }

    private static void words() {
        Check.sentence("words (a .. z, 8 at most)");
        Check.good("house abcdefgh at 0 0;house z at 0 0;house a at 0 0;", 3);
        Check.good("house zzzzzzzz at 0 0;house zzzzzzzy at 0 0;house zzzzzzz at 0 0;", 3);
        Check.fault("house abcdefghi at 0 0;", 1, 6);
        Check.fault("house abcdefghabcdefgh at 0 0;", 1, 6);
        Check.fault("landland 1 by 1;", 2, 0);
        Check.fault("landlandl 1 by 1;", 1, 0);
        Check.fault("house " + "z".repeat(1594), 1, 6);
        Check.fault("house A at 0 0;", 1, 6);
        Check.fault("house aB at 0 0;", 1, 7);
        Check.fault("house a_b at 0 0;", 1, 7);
    }

    private static void numbers() {
        Check.sentence("N (1 to 4 digits)");
        Check.due("one digit", Check.good("draw 9;", 0).about(7), 9);
        Check.due("four digits", Check.good("draw 0999;", 0).about(7), 999);
        Check.due("0000", Check.good("draw 0000;", 0).about(7), 0);
        Check.due("0123456789", Check.good("goes 0123+4567+89;", 0).about(13), 3);
        Check.due("9999", Check.good("house a at 0 0;goes 9999;", 1).house(0, 4), 4);
        Check.fault("draw 00009;", 1, 5);
        Check.fault("goes 10000;", 1, 5);
        Check.fault("goes " + "1".repeat(1595), 1, 5);
        Check.fault("land 00006 by 6;", 1, 5);
    }

    private static void signs() {
        Check.sentence("signs ; ( ) < > = + - * / %");
        for (int sign = 0; sign < 256; sign++) {
            String text = String.valueOf((char) sign);
            boolean token = sign >= 'a' && sign <= 'z' || sign >= '0' && sign <= '9' || SIGNS.indexOf(sign) >= 0;
            if (sign == 32 || sign == 10) {
                Check.good(text, 0);
            } else {
                Check.fault(text, token ? 2 : 1, 0);
            }
        }
    }

    private static void blanks() {
        Check.sentence("blanks (32, 10) part them or not");
        Check.good("\n\nhouse\na\nat\n0\n0\n;\n", 1);
        Check.good("  house  a  at  0  0  ;  ", 1);
        Check.good("house a at0 0;cat1 1;draw5;goes(1)and(2)or not(3);", 1);
        for (int sign : new int[] {0, 9, 11, 12, 13, 31, 127, 160}) {
            Check.fault("draw" + (char) sign + "5;", 1, 4);
        }
    }

    private static void longest() {
        Check.sentence("each is as long as can be");
        Check.fault("goesstep;", 2, 0);
        Check.fault("goes stepstep;", 2, 5);
        Check.fault("goes notstep;", 2, 5);
        Check.fault("cat 12;", 4, 4);
        Check.fault("cat 1 23;", 4, 6);
        Check.fault("goes 1 2;", 2, 7);
        Check.fault("goes step7;", 2, 9);
    }

    private static void letterBehindNumber() {
        Check.sentence("no letter directly behind an N");
        Check.fault("draw 7x;", 1, 5);
        Check.fault("draw 7a", 1, 5);
        Check.fault("draw 7z", 1, 5);
        Check.fault("land 3by 3;", 1, 5);
        Check.fault("goes 7and 1;", 1, 5);
        Check.fault("goes 1+7or 1;", 1, 7);
        Check.fault("draw 7 x;", 2, 7);
        Check.fault("draw 7\nx;", 2, 7);
        Check.good("draw7;", 0);
        Check.good("goes 7+step*7%(row)-7/7<7;", 0);
        Check.fault("draw 7", 2, 6);
    }

    private static void names() {
        Check.sentence("Words that stand for themselves here are no NAMES.");
        for (String word : WORDS) {
            Check.fault("house " + word + " at 0 0;", 2, 6);
            Check.good("house " + word + "s at 0 0;", 1);
            Check.good("house " + word.substring(0, word.length() - 1) + " at 0 0;", 1);
            Check.good("house x" + word + " at 0 0;", 1);
        }
    }

    private static void grammar() {
        Check.sentence("land N by N ; | hedge N N ; | house NAME at N N ; | cat N N ; | goes e ; | calls N ; | gale N ; | draw N ;.");
        String[] lines = {"land 6 by 6 ;", "hedge 1 2 ;", "house oak at 3 4 ;", "cat 1 1 ;", "goes 1 ;", "calls 1 ;",
            "gale 1 ;", "draw 1 ;"};
        for (String line : lines) {
            Check.good(line, line.startsWith("house") ? 1 : 0);
            String[] tokens = line.split(" ");
            int at = 0;
            for (String token : tokens) {
                // in place of each token: the end, and a sign that can stand nowhere there
                if (at > 0) {
                    Check.fault(line.substring(0, at), 2, at);
                }
                Check.fault(line.substring(0, at) + ")" + line.substring(at + token.length()), 2, at);
                at += token.length() + 1;
            }
            Check.fault(line + ";", 2, line.length());
        }
        Check.sentence("e = both {or both}. both = one {and one}. one = not one | sum [(< | > | =) sum].");
        Check.fault("goes or 1;", 2, 5);
        Check.fault("goes 1 or;", 2, 9);
        Check.fault("goes and 1;", 2, 5);
        Check.fault("goes 1 and;", 2, 10);
        Check.fault("goes 1 or or 2;", 2, 10);
        Check.fault("goes not;", 2, 8);
        Check.fault("goes 1 not 2;", 2, 7);
        Check.fault("goes 1 < not 2;", 2, 9);
        Check.fault("goes 1 < 2 < 3;", 2, 11);
        Check.fault("goes 1 = 2 > 3;", 2, 11);
        Check.fault("goes < 1;", 2, 5);
        Check.fault("goes 1 <;", 2, 8);
        Check.good("goes 1<2 or 3>4 and not 5=6 or not not 7;", 0);
        Check.sentence("sum = term {(+ | -) term}. term = unit {(* | / | %) unit}. unit = N | which | step | column | row | tilt | night | ( e ).");
        Check.fault("goes;", 2, 4);
        Check.fault("goes -1;", 2, 5);
        Check.fault("goes +1;", 2, 5);
        Check.fault("goes 1+;", 2, 7);
        Check.fault("goes 1-*2;", 2, 7);
        Check.fault("goes 1*not 2;", 2, 7);
        for (String sign : new String[] {"+", "-", "*", "/", "%", "<", ">", "=", " and", " or"}) {
            Check.fault("goes 1" + sign + ";", 2, 6 + sign.length());
            Check.fault("goes (1" + sign + ");", 2, 7 + sign.length());
            Check.fault("goes 1*2" + sign + ";", 2, 8 + sign.length());
        }
        Check.fault("goes ();", 2, 6);
        Check.fault("goes (1;", 2, 7);
        Check.fault("goes 1);", 2, 6);
        Check.fault("goes (1 2);", 2, 8);
        Check.fault("goes night(1);", 2, 10);
        Check.fault("goes house;", 2, 5);
        Check.fault("goes oak;", 2, 5);
        Check.due("units", Check.good("goes which+step-column*row/tilt%night+(1 or(0));", 0).about(13), 10);
    }

    private static void size() {
        Check.sentence("land (COLUMNS, ROWS: 1 .. 6 both; 6 by 6 if not told)");
        for (int columns = 0; columns <= 7; columns++) {
            for (int rows = 0; rows <= 7; rows++) {
                String text = "land " + columns + " by " + rows + ";";
                if (columns < 1 || columns > 6) {
                    Check.fault(text, 4, 5);
                } else if (rows < 1 || rows > 6) {
                    Check.fault(text, 4, 10);
                } else {
                    NightHouses x = Check.good(text, 0);
                    Check.due(text + " columns", x.about(1), columns);
                    Check.due(text + " rows", x.about(2), rows);
                    Check.due(text + " last cell", x.spot(columns * rows - 1, 0), 0);
                    Check.due(text + " no cell", x.spot(columns * rows, 0), -1);
                }
            }
        }
        Check.fault("land 9999 by 1;", 4, 5);
        NightHouses x = Check.good("draw 1;", 0);
        Check.due("columns, not told", x.about(1), 6);
        Check.due("rows, not told", x.about(2), 6);
    }

    private static void landOnce() {
        Check.sentence("once, ahead of all others.");
        Check.fault("land 2 by 2;land 2 by 2;", 2, 12);
        for (String line : OTHER_LINES) {
            Check.fault(line + "land 6 by 6;", 2, line.length());
            Check.good("land 6 by 6;" + line, line.startsWith("house") ? 1 : 0);
            Check.fault("land 6 by 6;" + line + "land 6 by 6;", 2, 12 + line.length());
        }
    }

    private static void cells() {
        Check.sentence("A CELL is told by its column, its row (from 0 on).");
        for (String line : new String[] {"hedge", "house a at", "cat"}) {
            String ahead = "land 3 by 2;" + line + " ";
            int at = ahead.length();
            int houses = line.startsWith("house") ? 1 : 0;
            Check.good(ahead + "0 0;", houses);
            Check.good(ahead + "2 1;", houses);
            Check.fault(ahead + "3 0;", 4, at);
            Check.fault(ahead + "0 2;", 4, at + 2);
            Check.fault(ahead + "3 2;", 4, at);
            Check.fault(ahead + "9999 9999;", 4, at);
        }
        Check.due("column, then row", Check.good("land 3 by 2;cat 2 1;", 0).about(4), 5);
        Check.due("column, then row", Check.good("land 2 by 3;cat 1 2;", 0).about(4), 5);
        Check.due("column, then row", Check.good("land 3 by 2;hedge 1 0;", 0).spot(1, 0), 1);
        Check.due("column, then row", Check.good("land 3 by 2;house a at 0 1;", 1).house(0, 1), 3);
    }

    private static String someHedges(int count) {
        StringBuilder all = new StringBuilder();
        for (int i = 0; i < count; i++) {
            all.append("hedge ").append(i % 6).append(' ').append(i / 6).append(';');
        }
        return all.toString();
    }

    private static void hedges() {
        Check.sentence("At most 8 hedges (at a CELL where none, no HOUSE, no cat is told)");
        Check.due("8 hedges", Check.good(someHedges(8), 0).about(3), 8);
        Check.fault(someHedges(9), 2, 80);
        Check.fault(someHedges(8) + "draw 1;hedge 9 9;", 2, 87);
        Check.fault("hedge 1 2;hedge 1 2;", 3, 18);
        Check.fault("hedge 1 2;draw 1;hedge 1  2;", 3, 26);
        Check.fault("house a at 1 2;hedge 1 2;", 3, 23);
        Check.fault("house a at 0 0;house b at 1 2;hedge 1 2;", 3, 38);
        Check.fault("cat 1 2;hedge 1 2;", 3, 16);
        Check.good("house a at 1 2;cat 2 2;hedge 2 1;hedge 1 1;", 1);
        Check.due("where the cat would be", Check.good("hedge 0 0;", 0).about(4), 1);
    }

    private static String someHouses(int count, String at) {
        StringBuilder all = new StringBuilder();
        for (int i = 0; i < count; i++) {
            all.append("house ").append("edcbaz".charAt(i)).append(" at ").append(at).append(';');
        }
        return all.toString();
    }

    private static void houses() {
        Check.sentence("5 HOUSES (at a CELL without a hedge: its HOME, several may be at one), numbered as told");
        NightHouses x = Check.good(someHouses(5, "5 5"), 5);
        Check.due("5 houses", x.about(0), 5);
        Check.due("all at one", x.spot(35, 1), 31);
        Check.fault(someHouses(6, "5 5"), 2, 75);
        Check.fault(someHouses(5, "5 5") + "draw 1;house e at 9 9;", 2, 82);
        Check.fault("hedge 1 2;house a at 1 2;", 3, 23);
        Check.fault("hedge 5 5;hedge 1 2;house a at 5 4;house b at 5 5;", 3, 48);
        NightHouses y = Check.good("house z at 3 0;house a at 1 0;house m at 2 0;", 3);
        Check.due("the first", y.house(0, 1), 3);
        Check.due("the second", y.house(1, 1), 1);
        Check.due("the third", y.house(2, 1), 2);
        Check.due("no fourth", y.house(3, 1), -1);
    }

    private static void cat() {
        Check.sentence("cat (a CELL without a hedge;");
        Check.fault("hedge 1 2;cat 1 2;", 3, 16);
        Check.fault("hedge 3 3;hedge 1 2;cat 1 2;", 3, 26);
        Check.due("at a house", Check.good("house a at 1 2;cat 1 2;hedge 2 1;", 1).about(4), 13);
    }

    private static void catNotTold() {
        Check.sentence("if it is not told, the first CELL, row by row, without one at the end of all; 0 0, if there is none such)");
        Check.due("without hedges", Check.good("land 3 by 2;", 0).about(4), 0);
        Check.due("at a house, too", Check.good("land 3 by 2;house a at 0 0;", 1).about(4), 0);
        Check.due("row by row", Check.good("land 3 by 2;hedge 0 0;", 0).about(4), 1);
        Check.due("the next row", Check.good("land 3 by 2;hedge 2 0;hedge 1 0;hedge 0 0;", 0).about(4), 3);
        Check.due("the last cell", Check.good("land 2 by 2;hedge 1 0;hedge 0 0;hedge 0 1;", 0).about(4), 3);
        Check.due("at the end of all", Check.good("house a at 1 1;draw 1;hedge 0 0;calls 1;hedge 1 0;", 1).about(4), 2);
        NightHouses x = Check.good("land 1 by 1;hedge 0 0;", 0);
        Check.due("none such", x.about(4), 0);
        Check.due("the hedge there", x.spot(0, 0), 1);
        StringBuilder all = new StringBuilder("land 2 by 4;");
        for (int i = 7; i >= 0; i--) {
            all.append("hedge ").append(i % 2).append(' ').append(i / 2).append(';');
        }
        Check.due("none such of 8", Check.good(all.toString(), 0).about(4), 0);
    }

    private static void otherLines() {
        Check.sentence("calls (0 .. 10; 2)");
        limits("calls", 15, 10, 2);
        Check.sentence("gale (0 .. 100 of 100; 0)");
        limits("gale", 16, 100, 0);
        Check.sentence("draw (0 .. 999; 0)");
        limits("draw", 7, 999, 0);
    }

    private static void limits(String word, int what, int most, int notTold) {
        Check.due(word + " not told", Check.good("land 1 by 1;", 0).about(what), notTold);
        Check.due(word + " 0", Check.good(word + " 0;", 0).about(what), 0);
        Check.due(word + " 1", Check.good(word + " 1;", 0).about(what), 1);
        Check.due(word + " " + most, Check.good(word + " " + most + ";", 0).about(what), most);
        Check.fault(word + " " + (most + 1) + ";", 4, word.length() + 1);
        Check.fault(word + " 9999;", 4, word.length() + 1);
    }

    private static void onceEach() {
        Check.sentence("draw (0 .. 999; 0) once each");
        for (String line : OTHER_LINES) {
            if (!line.startsWith("h")) {
                Check.fault(line + line, 2, line.length());
                Check.fault(line + "house a at 0 0; " + line, 2, line.length() + 16);
            }
        }
    }

    private static void units() {
        Check.sentence("60 units in all, 30 in one e");
        String ones = "1+".repeat(29);
        Check.due("30 units", Check.good("goes " + ones + "1;", 0).about(13), 30);
        Check.fault("goes " + ones + "1+1;", 2, 65);
        Check.fault("goes " + ones + "1+step;", 2, 65);
        Check.fault("goes " + ones + "1+ (1);", 2, 66);
        Check.fault("goes " + ones + "(1);", 2, 64);
        Check.due("30 with those in brackets", Check.good("goes " + "1+".repeat(28) + "(1);", 0).about(13), 30);
        Check.due("30 facts", Check.good("goes " + "row*".repeat(29) + "which;", 0).about(13), 30);
        Check.due("one told, in brackets", Check.good("goes (tilt);", 0).about(13), 2);
        Check.due("none told", Check.good("draw 1;", 0).about(13), 0);
        Check.due("a not is none", Check.good("goes not not 1 and not 2;", 0).about(13), 2);
    }

    private static void nesting() {
        Check.sentence("(a unit ( e ), or a one behind not, within 6 others at most)");
        Check.good("goes (((((((1)))))));", 0);
        Check.fault("goes ((((((((1))))))));", 2, 12);
        Check.good("goes " + "not ".repeat(7) + "1;", 0);
        Check.fault("goes " + "not ".repeat(8) + "1;", 2, 33);
        Check.good("goes " + "not ".repeat(6) + "(1);", 0);
        Check.fault("goes " + "not ".repeat(7) + "(1);", 2, 33);
        Check.good("goes ((((((not 1))))));", 0);
        Check.fault("goes (((((((not 1)))))));", 2, 12);
        Check.good("goes (((((((1)))))))*(((((((2)))))));", 0);
        Check.good("goes not not not not not not not 1 and not not not not not not not 1;", 0);
        Check.fault("goes ((((1)+(((((1)))))));", 2, 16);
    }

    private static void firstByPlace() {
        Check.sentence("FAULTS, the first by its place (bytes from 0;");
        Check.fault("calls 11;!", 4, 6);
        Check.fault("!calls 11;", 1, 0);
        Check.fault("calls !;calls 11;", 1, 6);
        Check.fault("hedge 1 1;hedge 1 1!", 3, 18);
        Check.fault("hedge 9 1!", 4, 6);
        Check.fault("hedge 1 9!", 4, 8);
        Check.fault("hedge 1 1;hedge 9 1;hedge 1 1;", 4, 16);
        Check.fault("house a at 1 1;house a !", 3, 21);
        Check.fault("draw 1;draw !", 2, 7);
        Check.fault("land 7 by 0", 4, 5);
        Check.fault("land 1 by 0", 4, 10);
        Check.fault("house a at 1 1;hedge 1 1;house a at 2 2;", 3, 23);
    }

    private static void theEnd() {
        Check.sentence("the end: the text's length)");
        Check.fault("cat", 2, 3);
        Check.fault("cat 1", 2, 5);
        Check.fault("cat 1 1", 2, 7);
        Check.fault("cat 1 1 \n ", 2, 10);
        Check.fault("goes (1 ", 2, 8);
        Check.fault("goes 1 +  ", 2, 10);
        Check.fault("goes not\n", 2, 9);
        Check.good("cat 1 1;", 0);
    }

    private static void leastAtOnePlace() {
        Check.sentence("at one place the least");
        Check.fault("land !", 1, 5);
        Check.fault("draw 12345;", 1, 5);
        Check.fault("draw 1000x;", 1, 5);
        Check.fault("hedge 1 1;hedge 1 1x;", 1, 18);
        Check.fault("goes " + "1+".repeat(30) + "10000;", 1, 65);
        Check.fault("house abcdefghi at 0 0;", 1, 6);
    }

    private static void placesOfFaultTwo() {
        Check.sentence("2 one that can't stand there (one of a sort too many, a second time, land behind another line: at the line's first word;");
        Check.fault(someHedges(8) + " \n hedge 0 3;", 2, 83);
        Check.fault(someHouses(5, "0 0") + "  house f at 0 0;", 2, 77);
        Check.fault("gale 3; gale 3;", 2, 8);
        Check.fault("gale 3; land 3 by 3;", 2, 8);
        Check.sentence("a unit too many, what is within 7 others: at its first TOKEN, or the not)");
        Check.fault("goes " + "1+".repeat(30) + " (1);", 2, 66);
        Check.fault("goes ((((((( (1))))))));", 2, 13);
        Check.fault("goes (((((((  not 1)))))));", 2, 14);
    }

    private static void faultThree() {
        Check.sentence("3 a NAME told already, a CELL that can't be, for what is told there (at the row)");
        Check.fault("house a at 1 1;house a at 1 1;", 3, 21);
        Check.fault("house a at 1 1;house b at 1 1;house  a at 1 1;", 3, 37);
        Check.fault("house abcdefgh at 1 1;house abcdefgh at 1 1;", 3, 28);
        Check.good("house abcdefgh at 1 1;house abcdefgi at 1 1;house bbcdefgh at 1 1;", 3);
        Check.good("house a at 1 1;house aa at 1 1;house aaa at 1 1;", 3);
        Check.fault("hedge 1 1;cat 1\n1;", 3, 16);
        Check.fault("hedge 1 1;house a at 1   1;", 3, 25);
    }

    private static void faultFour() {
        Check.sentence("4 a number that can't be.");
        Check.fault("calls 11;", 4, 6);
        Check.fault("gale  101;", 4, 6);
        Check.fault("draw 1000", 4, 5);
        Check.fault("land 6 by   7;", 4, 12);
    }

    private static void newObject() {
        Check.sentence("`NightHouses()`: An empty LAND (6 by 6 CELLS, the cat at 0 0).");
        NightHouses x = new NightHouses();
        int[] due = {0, 6, 6, 0, 0, 0, 0, 0, 0, 0, 0, 0, 0, 0, 0, 2, 0};
        for (int what = 0; what < due.length; what++) {
            Check.due("about(" + what + ")", x.about(what), due[what]);
        }
        for (int spot = 0; spot < 36; spot++) {
            Check.due("spot(" + spot + ", 0)", x.spot(spot, 0), 0);
            Check.due("spot(" + spot + ", 2)", x.spot(spot, 2), spot % 6 + spot / 6);
        }
        Check.due("undo()", x.undo(), false);
        Check.due("redo()", x.redo(), false);
        Check.due("restore(0)", x.restore(0), -1);
        Check.due("restore(2)", x.restore(2), -1);
        Check.due("lies(0)", x.lies(0), -1);
        Check.due("the same as an empty text", Sight.of(new NightHouses()), Sight.of(Check.told("")));
    }

    private static int four(String text) {
        return text.charAt(0) << 24 | text.charAt(1) << 16 | text.charAt(2) << 8 | text.charAt(3);
    }

    private static void feed() {
        Check.sentence("Twenty bytes come behind those on the TAPE, of each number the highest first: how many there are;");
        NightHouses x = new NightHouses();
        Check.due("feed", x.feed(four("hous"), four("e a "), four("at 1"), four(" 2;d"), four("raw ")), 20);
        Check.due("feed", x.feed(four("123;"), four("calls"), four("    "), four("   7"), four(";   ")), 40);
        Check.due("land() of calll", x.land(), -1);
        Check.due("its place", x.fault(1), 24);
        Check.due("end", x.end(24), 24);
        Check.due("land()", x.land(), 1);
        Check.due("the draw", x.about(7), 123);
        Check.due("the home", x.house(0, 1), 13);
        x.feed(four("draw"), four(" 1; "), 0x7fffffff, -1, Integer.MIN_VALUE);
        Check.due("land()", x.land(), -1);
        Check.due("its fault", x.fault(0) * 100 + x.fault(1), 108);
        x.end(0);
        x.feed(0x20202020, 0x2020200a, 0x0a202020, 0x202020ff, 0x20202020);
        Check.due("land()", x.land(), -1);
        Check.due("the lowest byte", x.fault(1), 15);
    }

    private static void feedTooMuch() {
        Check.sentence("NONE, and nothing comes, if there would be more than 1,600.");
        NightHouses x = new NightHouses();
        int blanks = four("    ");
        for (int i = 1; i < 80; i++) {
            Check.due("feed", x.feed(blanks, blanks, blanks, blanks, blanks), 20 * i);
        }
        Check.due("the last", x.feed(blanks, blanks, blanks, blanks, four("   ;")), 1600);
        Check.refused(x, "beyond", () -> x.feed(1, 2, 3, 4, 5));
        Check.due("land()", x.land(), -1);
        Check.due("its place", x.fault(1), 1599);
        Check.due("end(1581)", x.end(1581), 1581);
        Check.refused(x, "beyond by 1", () -> x.feed(1, 2, 3, 4, 5));
        Check.due("nothing came", x.end(1582), -1);
        Check.due("end(1580)", x.end(1580), 1580);
        Check.due("up to 1600", x.feed(blanks, blanks, blanks, blanks, blanks), 1600);
        Check.due("land()", x.land(), 0);
        Check.due("room again", x.feed(blanks, blanks, blanks, blanks, blanks), 20);
    }

    private static void end() {
        Check.sentence("The TAPE has its first n bytes: n;");
        NightHouses x = new NightHouses();
        x.feed(four("draw"), four(" 12;"), four("!   "), four("    "), four("    "));
        Check.due("all", x.end(20), 20);
        Check.due("the first", x.end(8), 8);
        Check.due("about(12)", x.about(12), 8);
        Check.due("the same", x.end(8), 8);
        Check.due("land()", x.land(), 0);
        Check.due("about(7)", x.about(7), 12);
        Check.due("none of none", x.end(0), 0);
        x.feed(four("gale"), four(" 7; "), four("    "), four("    "), four("    "));
        x.end(5);
        Check.due("behind what is left", x.feed(four("34; "), four("    "), four("    "), four("    "), four("    ")), 25);
        x.land();
        Check.due("about(16)", x.about(16), 34);
        x.feed(1, 1, 1, 1, 1);
        Check.due("none of 20", x.end(0), 0);
        Check.due("land() of none", x.land(), 0);
    }

    private static void endRefused() {
        Check.sentence("NONE, doing nothing, if it has not so many, or n is below 0.");
        NightHouses x = new NightHouses();
        Check.refused(x, "end(1) of none", () -> x.end(1));
        x.feed(four("draw"), four(" 12;"), four("    "), four("    "), four("    "));
        Check.refused(x, "end(21)", () -> x.end(21));
        Check.refused(x, "end(most)", () -> x.end(Integer.MAX_VALUE));
        Check.refused(x, "end(-1)", () -> x.end(-1));
        Check.refused(x, "end(least)", () -> x.end(Integer.MIN_VALUE));
        x.end(8);
        Check.refused(x, "end(9)", () -> x.end(9));
        Check.refused(x, "end(20)", () -> x.end(20));
    }

    /** An object of which everything has changed. */
    private static NightHouses busy() {
        NightHouses x = Check.told("land 3 by 3;hedge 1 1;house a at 0 0;house b at 2 2;goes 2;calls 4;gale 9;draw 5;cat 2 0;");
        x.later(7);
        x.seen(1, 2, false);
        x.hedge(3);
        x.step(false);
        x.dawn();
        x.walk(3);
        x.undo();
        x.image(1);
        x.plan(0, 0);
        x.plan(1, 3);
        return x;
    }

    private static void land() {
        Check.sentence("The TAPE (empty then) is the LAND (all as told, step 0, night 0, no ACTS are kept, nothing is SEEN, nothing lies there, BOXES are empty then; the TIME stays): how many HOUSES;");
        NightHouses x = busy();
        Check.due("step", x.about(5), 0);
        Check.due("night", x.about(6), 1);
        Check.due("undone, done again", x.about(8) * 10 + x.about(9), 31);
        Check.due("seen", x.about(10), 1);
        Check.due("lies", x.about(14) > 0, true);
        x.step(true);
        x.step(true);
        String text = "land 4 by 2;hedge 3 1;house c at 1 0;goes 1+1;gale 3;draw 44;";
        Check.tape(x, text);
        Check.due("land()", x.land(), 1);
        NightHouses fresh = Check.told(text);
        fresh.later(7);
        Check.due("all as told", Sight.of(x), Sight.of(fresh));
        Check.due("tape", x.about(12), 0);
        Check.due("undo()", x.undo(), false);
        Check.due("redo()", x.redo(), false);
        Check.refused(x, "restore(0)", () -> x.restore(0));
        Check.refused(x, "restore(1)", () -> x.restore(1));
        Check.refused(x, "restore(2)", () -> x.restore(2));
        Check.due("untell(0)", x.untell(0), false);
        Check.due("lies(0)", x.lies(0), -1);
        String most = someHedges(8) + someHouses(5, "5 5") + "cat 4 4;goes " + "1+".repeat(29) + "1;calls 1;gale 1;draw 1;";
        for (int i = 0; i < 3; i++) {
            Check.tape(x, most);
            Check.due("land() with as much as can be, again", x.land(), 5);
            Check.due("its hedges and units", x.about(3) * 100 + x.about(13), 830);
        }
        String[] shorter = {"house a at 0 0;goes 1+1+1+1;", "house a at 0 0;goes 1+1+1+1;", "house a at 0 0;goes 3;",
            "house a at 0 0;goes 2+1;", "house a at 0 0;", "house a at 0 0;"};
        int[] ways = {4, 4, 3, 3, 0, 0};
        for (int i = 0; i < ways.length; i++) {
            Check.tape(x, shorter[i]);
            x.land();
            Check.due("nothing of a longer formula is left", x.house(0, 4), ways[i]);
        }
        Check.tape(x, "");
        Check.due("land() of nothing", x.land(), 0);
        NightHouses empty = new NightHouses();
        empty.later(7);
        Check.due("an empty land", Sight.of(x), Sight.of(empty));
    }

    private static void landKeepsTime() {
        Check.sentence("the TIME stays)");
        NightHouses x = new NightHouses();
        x.later(1000);
        x.later(3);
        Check.tape(x, "house a at 0 0;");
        x.land();
        Check.due("the time", x.about(11), 1003);
        Check.due("later(1)", x.later(1), 1004);
    }

    private static void landRefused() {
        Check.sentence("NONE: a FAULT (all stays).");
        for (String text : new String[] {"!", "land 1 by 1;;", "house c at 1 1;house c at 1 1;", "draw 1000;", "hedge 0 0;goes step+;"}) {
            NightHouses x = busy();
            Check.tape(x, text);
            String before = Sight.of(x).replaceAll("fault=[^ ]*", "");
            Check.due("land() of " + text, x.land(), -1);
            Check.due("all", Sight.of(x).replaceAll("fault=[^ ]*", ""), before);
            Check.due("the tape", x.about(12), text.length());
            Check.due("land() once more", x.land(), -1);
            Check.due("redo()", x.redo(), true);
            Check.due("undo()", x.undo(), true);
            Check.due("restore(0)", x.restore(0), -1);
            Check.due("restore(1)", x.restore(1), 1);
            Check.due("will", x.will(1, 2, 0), 8);
        }
    }

    private static void fault() {
        Check.sentence("Of the latest land() what 0: its FAULT (0), 1: its place (NONE). NONE for another what.");
        NightHouses x = new NightHouses();
        Check.due("ahead of any: fault(0)", x.fault(0), 0);
        Check.due("ahead of any: fault(1)", x.fault(1), -1);
        Check.tape(x, "draw 1000;");
        x.land();
        Check.due("fault(0)", x.fault(0), 4);
        Check.due("fault(1)", x.fault(1), 5);
        Check.refused(x, "fault(2)", () -> x.fault(2));
        Check.refused(x, "fault(-1)", () -> x.fault(-1));
        Check.refused(x, "fault(most)", () -> x.fault(Integer.MAX_VALUE));
        Check.refused(x, "fault(least)", () -> x.fault(Integer.MIN_VALUE));
        x.end(0);
        x.feed(1, 2, 3, 4, 5);
        Check.due("still of the latest: fault(0)", x.fault(0), 4);
        x.land();
        Check.due("fault(0)", x.fault(0), 1);
        Check.due("fault(1)", x.fault(1), 0);
        x.end(0);
        x.land();
        Check.due("behind a good one: fault(0)", x.fault(0), 0);
        Check.due("behind a good one: fault(1)", x.fault(1), -1);
    }
}
