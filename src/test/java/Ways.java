/** Ways that an object can have come before it is asked: from new to full in each respect. */
final class Ways {
    static final String SMALL = "21;01;p000,t100";
    static final String LARGE = "64;01,12,23,34,45,50,02,13;p001,t112,c203,h300,d401,p511";

    private Ways() {
    }

    static void fresh(ChimeVan van) {
    }

    static void typed(ChimeVan van) {
        Check.type(van, SMALL.substring(0, 10));
    }

    static void small(ChimeVan van) {
        Check.type(van, SMALL);
        van.suburb();
    }

    static void large(ChimeVan van) {
        Check.type(van, LARGE);
        van.suburb();
    }

    /** Hours have gone, some are served, some count, something is seen, kept, and typed; round() was done twice. */
    static void lived(ChimeVan van) {
        large(van);
        van.go(4);
        van.go(3);
        van.see(1, true);
        van.see(3, false);
        van.image();
        van.go(3);
        van.go(2);
        van.go(1);
        van.see(0, true);
        van.call(5, 4, 2, 7);
        van.stand(5);
        van.round(2, 0);
        van.round(3, 14);
        Check.type(van, SMALL);
    }

    static void pageFull(ChimeVan van) {
        lived(van);
        for (int nth = SMALL.length(); nth < 60; nth++) {
            van.letter('0');
        }
    }

    static void freshPageFull(ChimeVan van) {
        for (int nth = 0; nth < 60; nth++) {
            van.letter('2');
        }
    }

    static void seenFull(ChimeVan van) {
        lived(van);
        van.see(2, false);
        van.see(4, true);
        van.see(5, false);
    }

    static void roundsFull(ChimeVan van) {
        lived(van);
        for (int nth = 2; nth < 20; nth++) {
            van.round(1, 0);
        }
    }

    /** An image was kept, and then another suburb was read. */
    static void moved(ChimeVan van) {
        lived(van);
        van.suburb();
        van.go(0);
        van.see(1, false);
    }
}
