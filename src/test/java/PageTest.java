/** Promises 1 to 5: a new object, letter, blank, fault, suburb. */
public final class PageTest {
    private static final Check CHECK = new Check("PageTest");
    private static final String SMALL = "21;01;p000,t100";
    private static final String LARGE = "65;01,12,23,34,45,50,02,13;p000,t111,c222,h333,d444,p599";

    public static void main(String[] args) {
        newObject();
        letters();
        faults();
        reading();
        anotherSuburb();
        CHECK.end();
    }

    private static void newObject() {
        ChimeVan van = new ChimeVan();
        long sum = 1237;
        for (int what = 0; what < 12; what++) {
            CHECK.due("new count(" + what + ")", van.count(what), 0);
            sum = 31 * sum;
        }
        CHECK.due("new digest()", van.digest(), sum);
        CHECK.due("new fault()", van.fault(), 0);
        CHECK.due("new blank()", van.blank(), 0);
        CHECK.due("new suburb()", van.suburb(), ChimeVan.STATE);
        CHECK.due("new person(0, 0)", van.person(0, 0), ChimeVan.UNKNOWN);
        CHECK.due("new as(0, 0)", van.as(0, 0), ChimeVan.UNKNOWN);
        CHECK.due("new road(0, 0)", van.road(0, 0), ChimeVan.UNKNOWN);
        CHECK.due("new corner(0, 0)", van.corner(0, 0), ChimeVan.UNKNOWN);
        CHECK.due("new far(0, 0)", van.far(0, 0), ChimeVan.UNKNOWN);
        CHECK.due("new go(0)", van.go(0), ChimeVan.UNKNOWN);
        CHECK.due("new stand(0)", van.stand(0), ChimeVan.UNKNOWN);
        CHECK.due("new call(0, 0, 0, 0)", van.call(0, 0, 0, 0), ChimeVan.UNKNOWN);
        CHECK.due("new round(1, 0)", van.round(1, 0), ChimeVan.STATE);
        CHECK.due("new round(0, 0)", van.round(0, 0), ChimeVan.OUTSIDE);
        CHECK.due("new odds(0, 1, 0)", van.odds(0, 1, 0), ChimeVan.UNKNOWN);
        CHECK.due("new see(0, true)", van.see(0, true), ChimeVan.UNKNOWN);
        CHECK.due("new forget()", van.forget(), 0);
        CHECK.due("new places()", van.places(), ChimeVan.STATE);
        CHECK.due("new ask()", van.ask(), ChimeVan.STATE);
        CHECK.due("new evenings(1, 0, 0)", van.evenings(1, 0, 0), ChimeVan.STATE);
        CHECK.due("new evenings(0, 0, 0)", van.evenings(0, 0, 0), ChimeVan.OUTSIDE);
        CHECK.due("new image()", van.image(), ChimeVan.STATE);
        CHECK.due("new restore()", van.restore(), ChimeVan.STATE);
    }

    private static void letters() {
        ChimeVan van = new ChimeVan();
        CHECK.due("letter(0)", van.letter(0), ChimeVan.OUTSIDE);
        CHECK.due("letter(127)", van.letter(127), ChimeVan.OUTSIDE);
        CHECK.due("letter(-1)", van.letter(-1), ChimeVan.OUTSIDE);
        CHECK.due("letter(least)", van.letter(Integer.MIN_VALUE), ChimeVan.OUTSIDE);
        CHECK.due("letter(most)", van.letter(Integer.MAX_VALUE), ChimeVan.OUTSIDE);
        CHECK.due("letter(1)", van.letter(1), 1);
        CHECK.due("letter(126)", van.letter(126), 2);
        for (int number = 3; number <= 60; number++) {
            CHECK.due("letter " + number, van.letter('0'), number);
        }
        CHECK.due("letter 61", van.letter('0'), ChimeVan.FULL);
        CHECK.due("letter(0) on a full page", van.letter(0), ChimeVan.OUTSIDE);
        CHECK.due("count(9)", van.count(9), 60);
        CHECK.due("blank()", van.blank(), 60);
        CHECK.due("blank() again", van.blank(), 0);
        CHECK.due("letter behind blank()", van.letter('2'), 1);
        CHECK.due("fault() behind blank()", van.fault(), 1);
    }

    private static void faultIs(String text, int place) {
        ChimeVan van = new ChimeVan();
        Check.type(van, text);
        CHECK.due("fault of " + text, van.fault(), place);
        CHECK.due("count(9) behind fault of " + text, van.count(9), text.length());
    }

    private static void faults() {
        for (int length = 0; length <= LARGE.length(); length++) {
            faultIs(LARGE.substring(0, length), length);
        }
        faultIs(LARGE + ",", LARGE.length());
        faultIs(LARGE + "x", LARGE.length());
        faultIs("1", 0);
        faultIs("7", 0);
        faultIs("x", 0);
        faultIs("22", 1);
        faultIs("66", 1);
        faultIs("6x", 1);
        faultIs("20,", 2);
        faultIs("20;;", 3);
        faultIs("20;2", 3);
        faultIs("20;00", 4);
        faultIs("20;02", 4);
        faultIs("20;011", 5);
        faultIs("20;01,;", 6);
        faultIs("20;01,01,01,01,01,01,01,01,", 26);
        faultIs("20;01,01,01,01,01,01,01,01;", 27);
        faultIs("20;01;x", 6);
        faultIs("20;01;P", 6);
        faultIs("20;01;p2", 7);
        faultIs("20;01;p0:", 8);
        faultIs("20;01;p0/", 8);
        faultIs("20;01;p09x", 9);
        faultIs("20;01;p0000", 10);
        faultIs("20;01;p000;", 10);
        faultIs("20;01;p000,,", 11);
        faultIs("20;01;p000,t000;", 15);
    }

    private static void refused(String text) {
        ChimeVan van = new ChimeVan();
        Check.type(van, text);
        long before = van.digest();
        CHECK.due("suburb() of " + text, van.suburb(), ChimeVan.STATE);
        CHECK.due("digest() behind it", van.digest(), before);
        CHECK.due("count(9) behind it", van.count(9), text.length());
    }

    private static void reading() {
        ChimeVan van = new ChimeVan();
        Check.type(van, LARGE);
        CHECK.due("suburb() of the largest", van.suburb(), 6);
        CHECK.due("count(0)", van.count(0), 6);
        CHECK.due("count(1)", van.count(1), 8);
        CHECK.due("count(2)", van.count(2), 6);
        CHECK.due("count(3)", van.count(3), 5);
        CHECK.due("count(9)", van.count(9), 0);
        CHECK.due("count(10)", van.count(10), 1);
        Check.type(van, SMALL);
        CHECK.due("suburb() of the smallest", van.suburb(), 2);
        CHECK.due("count(10) then", van.count(10), 2);
        for (int length = 0; length < SMALL.length(); length++) {
            refused(SMALL.substring(0, length));
        }
        refused(SMALL + ",");
        refused("21;01;p000");
        refused("21;01,;p000,p000");
        refused("21;;p000,p000");
        refused("21;11;p000,p000");
    }

    private static void anotherSuburb() {
        ChimeVan van = Check.of(SMALL);
        van.go(0);
        van.see(0, true);
        van.image();
        van.round(1, 0);
        CHECK.due("count(5)", van.count(5), 1);
        Check.type(van, "x");
        CHECK.due("suburb() of x", van.suburb(), ChimeVan.STATE);
        CHECK.due("restore() behind a refused suburb()", van.restore(), 1);
        CHECK.due("blank()", van.blank(), 1);
        Check.type(van, SMALL);
        CHECK.due("suburb()", van.suburb(), 2);
        CHECK.due("hour", van.count(4), 0);
        CHECK.due("van", van.count(3), 1);
        CHECK.due("served", van.count(5), 0);
        CHECK.due("counts", van.count(6), 0);
        CHECK.due("seen", van.count(8), 0);
        CHECK.due("rounds", van.count(11), 1);
        CHECK.due("restore() of another suburb's image", van.restore(), ChimeVan.STATE);
    }
}
