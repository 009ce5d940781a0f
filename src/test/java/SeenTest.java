/** Promises 16 to 19 and 21 to 24: see, forget, places, ask, image, restore, count, digest. */
public final class SeenTest {
    private static final Check CHECK = new Check("SeenTest");

    public static void main(String[] args) {
        seeing();
        placing();
        asking();
        images();
        counts();
        digests();
        CHECK.end();
    }

    private static void seeing() {
        ChimeVan van = Check.of("20;01;p000,p100");
        CHECK.due("see(2, true)", van.see(2, true), ChimeVan.UNKNOWN);
        CHECK.due("see(-1, true)", van.see(-1, true), ChimeVan.UNKNOWN);
        CHECK.due("forget() of nothing", van.forget(), 0);
        for (int number = 1; number <= 6; number++) {
            CHECK.due("see " + number, van.see(0, true), number);
        }
        CHECK.due("see 7", van.see(0, true), ChimeVan.FULL);
        CHECK.due("see 7 of an unknown", van.see(2, true), ChimeVan.UNKNOWN);
        CHECK.due("count(8)", van.count(8), 6);
        CHECK.due("forget()", van.forget(), 6);
        CHECK.due("count(8) then", van.count(8), 0);
        CHECK.due("places() then", van.places(), 3);
    }

    private static void placing() {
        ChimeVan van = Check.of("50;01,12,23;p001,p300,p402");
        CHECK.due("places() by nothing", van.places(), 31);
        van.see(0, true);
        CHECK.due("places()", van.places(), 3);
        van.see(1, false);
        CHECK.due("places()", van.places(), 3);
        van.call(0, 0, 0, 3);
        CHECK.due("places() by other ears", van.places(), 7);
        van.forget();
        van.see(2, false);
        CHECK.due("places() without a way", van.places(), 15);
        van.see(2, true);
        CHECK.due("places() of what cannot be", van.places(), 0);
    }

    private static void asking() {
        ChimeVan van = Check.of("60;01,12,23,34,45;p000,p001,p002,p002");
        CHECK.due("ask(), the half", van.ask(), 2);
        van.see(2, true);
        CHECK.due("ask(), of like ones the least", van.ask(), 0);
        van.see(0, false);
        CHECK.due("ask(), of two", van.ask(), 1);
        van.see(1, true);
        CHECK.due("ask(), of one place", van.ask(), 0);
        van.see(1, false);
        CHECK.due("ask(), of none", van.ask(), ChimeVan.NONE);
    }

    private static void images() {
        ChimeVan van = Check.of("20;01;p000,t109");
        CHECK.due("restore() of none", van.restore(), ChimeVan.STATE);
        van.go(1);
        van.see(1, true);
        CHECK.due("image()", van.image(), 1);
        long before = van.digest();
        van.go(0);
        van.go(1);
        van.call(0, 4, 5, 6);
        van.call(1, 3, 4, 5);
        van.forget();
        van.see(0, false);
        van.see(0, false);
        van.stand(0);
        CHECK.due("restore()", van.restore(), 1);
        CHECK.due("digest() as it was", van.digest(), before);
        CHECK.due("places() as they were", van.places(), 3);
        van.go(1);
        CHECK.due("restore() again", van.restore(), 1);
        CHECK.due("digest() as it was again", van.digest(), before);
        van.go(0);
        CHECK.due("image(), the latest", van.image(), 2);
        van.go(1);
        CHECK.due("restore() of the latest", van.restore(), 2);
        CHECK.due("served as they were", van.person(0, 4), 1);
        van.letter('2');
        CHECK.due("restore() leaves the page", van.restore() + 10 * van.count(9), 12);
    }

    private static void counts() {
        ChimeVan van = Check.of("41;01,12,23;p000,t110,d101,h319");
        van.go(1);
        van.go(0);
        van.go(1);
        van.see(1, true);
        van.see(2, true);
        van.letter('x');
        van.round(1, 0);
        van.round(1, 0);
        int[] due = {4, 3, 4, 1, 3, 2, 5, 3, 2, 1, 1, 2};
        for (int what = 0; what < due.length; what++) {
            CHECK.due("count(" + what + ")", van.count(what), due[what]);
        }
        van.stand(0);
        CHECK.due("count(7) where the first one hears it", van.count(7), 3);
        for (int wrong : new int[] {-1, 12, Integer.MIN_VALUE, Integer.MAX_VALUE}) {
            CHECK.due("count(" + wrong + ")", van.count(wrong), ChimeVan.OUTSIDE);
        }
    }

    private static void digests() {
        ChimeVan van = new ChimeVan();
        Check.type(van, "50;x");
        CHECK.due("digest() without a suburb", van.digest(), Digests.byCalls(van, "50;x"));
        van = Check.of("50;01,12,21,23;p100,c000,t100,p400");
        CHECK.due("digest()", van.digest(), Digests.byCalls(van, ""));
        van.go(1);
        van.see(0, true);
        van.round(2, 0);
        Check.type(van, "ab");
        CHECK.due("digest() later", van.digest(), Digests.byCalls(van, "ab"));
        CHECK.due("digest() changes nothing", van.digest(), Digests.byCalls(van, "ab"));
    }
}
