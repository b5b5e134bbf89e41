/** All that can be seen of an object by calls that do nothing. */
final class Sight {
    private Sight() {
    }

    /** The same without how many acts are kept. */
    static String world(NightHouses x) {
        return of(x).replaceAll(" about[89]=\\d+", "");
    }

    static String of(NightHouses x) {
        StringBuilder all = new StringBuilder();
        for (int what = 0; what <= 16; what++) {
            all.append(" about").append(what).append('=').append(x.about(what));
        }
        all.append(" fault=").append(x.fault(0)).append('@').append(x.fault(1)).append(" lies=").append(Check.lying(x));
        for (int house = 0; house < x.about(0); house++) {
            all.append(" house").append(house).append('=');
            for (int what = 0; what <= 5; what++) {
                all.append(x.house(house, what)).append(',');
            }
        }
        all.append(" hedges=");
        for (int spot = 0; spot < x.about(1) * x.about(2); spot++) {
            all.append(x.spot(spot, 0));
        }
        all.append(" fits=");
        for (int k = x.about(11) - 2; k <= x.about(11) + 1; k++) {
            all.append(x.fits(k)).append(',').append(x.sure(0, k)).append(',').append(x.sure(1, k)).append(' ');
        }
        return all.toString();
    }
}
