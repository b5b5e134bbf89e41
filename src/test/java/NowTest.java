/** Promises 6, 7, 21, 23, 26, 28, 29, 31, 32, 34, 36 to 39 and 49: what is so now. */
public final class NowTest {
    public static void main(String[] args) {
        housesAndSpots();
        hearing();
        homes();
        pairs();
        ways();
        lostOnes();
        odds();
        nothingThere();
        Check.finish();
    }

    private static void housesAndSpots() {
        NightHouses x = Check.told("land 4 by 3;hedge 1 1;house a at 0 0;house b at 3 2;house c at 0 0;cat 2 2;goes 3+which;");
        Check.due("house(0, 0)", x.house(0, 0), 0);
        Check.due("house(1, 0)", x.house(1, 0), 11);
        Check.due("house(1, 1)", x.house(1, 1), 11);
        Check.due("house(0, 2)", x.house(0, 2), 0);
        Check.due("house(0, 3)", x.house(0, 3), 0);
        Check.due("house(0, 4)", x.house(0, 4), 3);
        Check.due("house(1, 4)", x.house(1, 4), 4);
        Check.due("house(2, 4)", x.house(2, 4), 0);
        Check.due("house(0, 5)", x.house(0, 5), 5);
        Check.due("house(1, 5)", x.house(1, 5), 2);
        Check.due("house(0, 6)", x.house(0, 6), -1);
        Check.due("house(0, -1)", x.house(0, -1), -1);
        Check.due("house(3, 0)", x.house(3, 0), -1);
        Check.due("house(-1, 0)", x.house(-1, 0), -1);
        Check.due("spot(5, 0)", x.spot(5, 0), 1);
        Check.due("spot(4, 0)", x.spot(4, 0), 0);
        Check.due("spot(0, 1)", x.spot(0, 1), 5);
        Check.due("spot(1, 1)", x.spot(1, 1), 0);
        Check.due("spot(3, 2)", x.spot(3, 2), 3);
        Check.due("spot(10, 2)", x.spot(10, 2), 0);
        Check.due("spot(12, 0)", x.spot(12, 0), -1);
        Check.due("spot(-1, 0)", x.spot(-1, 0), -1);
        Check.due("spot(0, 3)", x.spot(0, 3), -1);
        Check.due("spot(0, -1)", x.spot(0, -1), -1);
        Check.due("step", x.step(false), 0);
        Check.due("behind a step: house(0, 0)", x.house(0, 0), 4);
        Check.due("behind a step: house(0, 1)", x.house(0, 1), 0);
        Check.due("behind a step: house(2, 5)", x.house(2, 5), 4);
        int[] about = {3, 4, 3, 1, 10, 1, 0, seedBehind(0, 3), 1, 0, 0, 0, 0, 2, 0, 2, 0};
        for (int what = 0; what < about.length; what++) {
            Check.due("about(" + what + ")", x.about(what), about[what]);
        }
    }

    private static int seedBehind(int seed, int draws) {
        int now = seed;
        for (int i = 0; i < draws; i++) {
            now = (now * 137 + 71) % 1000;
        }
        return now;
    }

    private static void hearing() {
        NightHouses x = Check.told("house a at 0 0;house b at 2 1;house c at 5 5;cat 0 0;calls 3;");
        Check.due("hear()", x.hear(), 3);
        Check.due("law(0)", x.law(0), 1);
        Check.due("law(2)", x.law(2), 1);
        Check.due("law(3)", x.law(3), 2);
        Check.due("law(9)", x.law(9), 2);
        Check.due("law(10)", x.law(10), 3);
        Check.due("law(99)", x.law(99), 3);
        Check.due("law(100)", x.law(100), -1);
        Check.due("law(-1)", x.law(-1), -1);
        Check.due("calls 2, if it is not told", Check.told("house a at 1 1;house b at 2 1;cat 0 0;").hear(), 1);
    }

    private static void homes() {
        NightHouses x = Check.told("land 3 by 1;house a at 0 0;house b at 1 0;house c at 2 0;goes 2;");
        Check.due("home()", x.home(), 7);
        Check.due("tilted()", x.tilted(), 0);
        Check.due("step", x.step(false), 6);
        Check.due("home()", x.home(), 4);
        Check.due("tilted()", x.tilted(), 1);
        Check.due("fetch()", x.fetch(), 0);
        Check.due("suits(0)", x.suits(0), 1 << 4);
        Check.due("suits(2)", x.suits(2), 0);
        Check.due("suits(3)", x.suits(3), -1);
        Check.due("suits(-1)", x.suits(-1), -1);
        x.step(false);
        Check.due("house(0, 2)", x.house(0, 2), 1);
        Check.due("house(1, 2)", x.house(1, 2), 2);
        Check.due("tilted()", x.tilted(), 1);
    }

    private static void pairs() {
        NightHouses x = Check.told("land 3 by 1;house a at 0 0;house b at 1 0;house c at 2 0;goes 2-which*(2-which)*3+which/2*2;");
        Check.due("ways", x.house(0, 4) * 100 + x.house(1, 4) * 10 + x.house(2, 4), 244);
        Check.due("swap(0) with all at home", x.swap(0), -1);
        Check.due("closest(0)", x.closest(0), 0);
        Check.due("closest(1)", x.closest(1), 1);
        Check.due("closest(2)", x.closest(2), 1);
        Check.due("closest(3)", x.closest(3), -1);
        Check.due("closest(-1)", x.closest(-1), -1);
        Check.due("step: a at 1, b at 0, c at 1", x.step(false), 5);
        Check.due("swap(0)", x.swap(0), 0);
        Check.due("swap(1)", x.swap(1), 1);
        Check.due("swap(2)", x.swap(2), 2);
        Check.due("swap(3)", x.swap(3), -1);
        Check.due("swap(-1)", x.swap(-1), -1);
        Check.due("closest(0)", x.closest(0), 0);
        Check.due("closest(1)", x.closest(1), 2);
        Check.due("closest(2)", x.closest(2), 0);
        NightHouses one = Check.told("house a at 0 0;");
        Check.due("closest(0) of one", one.closest(0), -1);
        Check.due("swap(2) of one", one.swap(2), -1);
    }

    private static void ways() {
        NightHouses x = Check.told("land 3 by 3;hedge 1 0;hedge 1 1;house a at 2 0;house b at 0 2;cat 0 0;goes 3;");
        Check.due("way(0)", x.way(0), 0);
        Check.due("way(2)", x.way(2), 6);
        Check.due("way(1)", x.way(1), -1);
        Check.due("way(9)", x.way(9), -1);
        Check.due("way(-1)", x.way(-1), -1);
        Check.due("realm()", x.realm(), 7);
        Check.due("fetch() with all at home", x.fetch(), -1);
        x.step(false);
        Check.due("fetch()", x.fetch(), 0);
        Check.due("hedge(7)", x.hedge(7), 3);
        Check.due("realm()", x.realm(), 3);
        Check.due("fetch() behind hedges", x.fetch(), -1);
        Check.due("way(5)", x.way(5), -1);
        Check.due("suits(0)", x.suits(0), 1 << 1);
        NightHouses y = Check.told("land 5 by 1;house a at 4 0;house b at 2 0;house c at 1 0;cat 0 0;goes 4;");
        y.step(false);
        Check.due("the nearest first", y.fetch(), 2);
    }

    private static void lostOnes() {
        NightHouses x = Check.told("land 3 by 1;house a at 0 0;house b at 0 0;cat 2 0;goes 2*which;");
        Check.due("lost()", x.lost(), 0);
        x.step(false);
        x.step(false);
        Check.due("hedge(1)", x.hedge(1), 1);
        Check.due("lost()", x.lost(), 2);
        Check.due("cut(1)", x.cut(1), 0);
        Check.due("lost()", x.lost(), 0);
        NightHouses y = Check.told("land 2 by 1;house a at 0 0;cat 1 0;goes 2;");
        y.step(false);
        Check.due("a hedge at its home", y.hedge(0), 1);
        Check.due("lost()", y.lost(), 1);
        Check.due("suits(0)", y.suits(0), 0);
    }

    private static void odds() {
        NightHouses x = Check.told("gale 25;");
        Check.due("odds(0, 0)", x.odds(0, 0), 1);
        Check.due("odds(0, 1)", x.odds(0, 1), 1);
        Check.due("odds(1, 0)", x.odds(1, 0), 3);
        Check.due("odds(1, 1)", x.odds(1, 1), 4);
        Check.due("odds(2, 0)", x.odds(2, 0), 9);
        Check.due("odds(2, 1)", x.odds(2, 1), 16);
        Check.due("odds(4, 1)", x.odds(4, 1), 256);
        Check.due("odds(5, 0)", x.odds(5, 0), -1);
        Check.due("odds(-1, 0)", x.odds(-1, 0), -1);
        Check.due("odds(1, 2)", x.odds(1, 2), -1);
        Check.due("odds(1, -1)", x.odds(1, -1), -1);
        NightHouses sure = Check.told("gale 100;");
        Check.due("gale 100: odds(3, 0)", sure.odds(3, 0), 0);
        Check.due("gale 100: odds(3, 1)", sure.odds(3, 1), 1);
        Check.due("gale 100: odds(0, 0)", sure.odds(0, 0), 1);
        NightHouses odd = Check.told("gale 1;");
        Check.due("gale 1: odds(4, 0)", odd.odds(4, 0), 96059601);
        Check.due("gale 1: odds(4, 1)", odd.odds(4, 1), 100000000);
    }

    private static void nothingThere() {
        NightHouses x = new NightHouses();
        Check.due("house(0, 0)", x.house(0, 0), -1);
        Check.due("home()", x.home(), 0);
        Check.due("hear()", x.hear(), 0);
        Check.due("lost()", x.lost(), 0);
        Check.due("tilted()", x.tilted(), -1);
        Check.due("fetch()", x.fetch(), -1);
        Check.due("law(9)", x.law(9), 0);
        Check.due("suits(0)", x.suits(0), -1);
        Check.due("closest(2)", x.closest(2), -1);
        Check.due("swap(2)", x.swap(2), -1);
        Check.due("realm()", x.realm(), 36);
    }
}
