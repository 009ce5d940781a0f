/** Promise 24 told again: the digest as it is due by what the other calls answer. */
final class Digests {
    private Digests() {
    }

    private static long mixed(long sum, long number) {
        return 31 * sum + number;
    }

    static long byCalls(ChimeVan van, String page) {
        long sum = 1237;
        for (int who = 0; who < van.count(2); who++) {
            for (int what = 0; what <= 8; what++) {
                sum = mixed(sum, van.person(who, what));
            }
            sum = mixed(sum, van.odds(who, 2, 0));
            sum = mixed(sum, van.odds(who, 2, 1));
        }
        for (int road = 0; road < van.count(1); road++) {
            sum = mixed(sum, van.road(road, 0));
            sum = mixed(sum, van.road(road, 1));
        }
        for (int corner = 0; corner < van.count(0); corner++) {
            for (int what = 0; what <= 3; what++) {
                sum = mixed(sum, van.corner(corner, what));
            }
        }
        if (van.count(10) > 0) {
            sum = mixed(sum, van.places());
            sum = mixed(sum, van.ask());
        }
        for (int place = 0; place < page.length(); place++) {
            sum = mixed(sum, page.charAt(place));
        }
        for (int what = 0; what <= 11; what++) {
            sum = mixed(sum, van.count(what));
        }
        return sum;
    }
}
