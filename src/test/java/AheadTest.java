/** Promises 14, 15 and 20: round, odds, evenings. */
public final class AheadTest {
    private static final Check CHECK = new Check("AheadTest");
    private static final int[] WRONG = {-1, Integer.MIN_VALUE, Integer.MAX_VALUE};

    public static void main(String[] args) {
        bestRounds();
        laterRounds();
        roundRefusals();
        oddsAsTold();
        oddsRefusals();
        eveningsAsTold();
        eveningsRefusals();
        CHECK.end();
    }

    private static void roundIs(String text, int hours, int many, int much, int... way) {
        ChimeVan van = Check.of(text);
        long before = van.places();
        CHECK.due(text + " round(" + hours + ", 0)", van.round(hours, 0), many);
        CHECK.due(text + " round(" + hours + ", 1)", van.round(hours, 1), much);
        for (int nth = 0; nth < 5; nth++) {
            int due = nth < hours ? way[nth] : ChimeVan.NONE;
            CHECK.due(text + " round(" + hours + ", 1" + nth + ")", van.round(hours, 10 + nth), due);
        }
        CHECK.due("the van stays", van.count(3), text.charAt(1) - '0');
        CHECK.due("so does the hour", van.count(4), 0);
        CHECK.due("nobody is served", van.count(5), 0);
        CHECK.due("nothing counts", van.count(6), 0);
        CHECK.due("places", van.places(), before);
        CHECK.due("count(11)", van.count(11), 7);
    }

    private static void bestRounds() {
        roundIs("31;01,12;p000,p200", 1, 1, 0, 0);
        roundIs("31;01,12;t000,d200", 1, 0, 1, 0);
        roundIs("31;01,12;t000,t200", 2, 1, 0, 0, 0);
        roundIs("31;01,12;t000,t200,t200", 2, 2, 0, 2, 2);
        roundIs("31;01,12;d000,h100,d200", 3, 1, 1, 0, 1, 1);
        roundIs("31;01,12;c000,c200", 3, 2, 0, 0, 1, 2);
        roundIs("20;01;p090,p190", 5, 0, 0, 0, 0, 0, 0, 0);
        roundIs("20;01;p050,p140", 5, 2, 0, 0, 0, 0, 1, 0);
        roundIs("30;01;t200,t200", 4, 0, 0, 0, 0, 0, 0);
        roundIs("21;01;p000,h100", 3, 2, 0, 0, 1, 1);
    }

    private static void laterRounds() {
        ChimeVan van = Check.of("31;01,12;p100,p000,t200");
        CHECK.due("who will be served", van.round(2, 0), 2);
        CHECK.due("go(1)", van.go(1), 1);
        CHECK.due("who is served already does not count", van.round(1, 0), 1);
        CHECK.due("go(0)", van.go(0), 1);
        CHECK.due("nobody is in reach", van.round(1, 0), 0);
        CHECK.due("nothing counts", van.round(1, 1), 0);
        CHECK.due("the first by numbers", van.round(1, 10), 0);
        CHECK.due("a thinker in two hours counts once", van.round(2, 1), 1);
    }

    private static void roundRefusals() {
        ChimeVan van = Check.of("20;01;p000,p100");
        CHECK.due("round(0, 0)", van.round(0, 0), ChimeVan.OUTSIDE);
        CHECK.due("round(6, 0)", van.round(6, 0), ChimeVan.OUTSIDE);
        CHECK.due("round(1, 2)", van.round(1, 2), ChimeVan.OUTSIDE);
        CHECK.due("round(1, 9)", van.round(1, 9), ChimeVan.OUTSIDE);
        CHECK.due("round(1, 15)", van.round(1, 15), ChimeVan.OUTSIDE);
        for (int wrong : WRONG) {
            CHECK.due("round(" + wrong + ", 0)", van.round(wrong, 0), ChimeVan.OUTSIDE);
            CHECK.due("round(1, " + wrong + ")", van.round(1, wrong), ChimeVan.OUTSIDE);
        }
        CHECK.due("refusals do not count", van.count(11), 0);
        CHECK.due("image()", van.image(), 0);
        for (int number = 1; number <= 20; number++) {
            CHECK.due("round " + number, van.round(1, 14), ChimeVan.NONE);
            van.restore();
        }
        CHECK.due("round 21", van.round(1, 0), ChimeVan.STATE);
        CHECK.due("round(0, 0), of several the first", van.round(0, 0), ChimeVan.OUTSIDE);
        CHECK.due("count(11)", van.count(11), 20);
        Check.type(van, "20;01;p000,p100");
        CHECK.due("suburb()", van.suburb(), 2);
        CHECK.due("round 21 in a new suburb", van.round(1, 0), ChimeVan.STATE);
    }

    private static void oddsAre(ChimeVan van, int who, int hours, int above, int below) {
        CHECK.due("odds(" + who + ", " + hours + ", 0)", van.odds(who, hours, 0), above);
        CHECK.due("odds(" + who + ", " + hours + ", 1)", van.odds(who, hours, 1), below);
    }

    private static void oddsAsTold() {
        ChimeVan van = Check.of("40;01,01,02,12;p000,p100,p200,p300");
        oddsAre(van, 0, 1, 0, 1);
        oddsAre(van, 1, 1, 2, 3);
        oddsAre(van, 2, 1, 1, 3);
        oddsAre(van, 3, 1, 0, 1);
        oddsAre(van, 0, 2, 11, 18);
        oddsAre(van, 1, 2, 1, 6);
        oddsAre(van, 2, 2, 2, 9);
        oddsAre(van, 3, 4, 0, 1);
        van.stand(3);
        oddsAre(van, 3, 4, 1, 1);
        oddsAre(van, 0, 4, 0, 1);
        CHECK.due("odds go without an hour", van.count(4), 0);

        van = Check.of("20;01;p000,p100");
        oddsAre(van, 0, 4, 1, 1);
        oddsAre(van, 0, 3, 0, 1);
        Check.type(van, "30;01,02;p100,p200");
        van.suburb();
        oddsAre(van, 0, 1, 1, 2);
        oddsAre(van, 1, 3, 1, 2);
    }

    private static void oddsRefusals() {
        ChimeVan van = Check.of("20;01;p000,p100");
        CHECK.due("odds(2, 0, 2)", van.odds(2, 0, 2), ChimeVan.UNKNOWN);
        CHECK.due("odds(0, 0, 0)", van.odds(0, 0, 0), ChimeVan.OUTSIDE);
        CHECK.due("odds(0, 5, 0)", van.odds(0, 5, 0), ChimeVan.OUTSIDE);
        CHECK.due("odds(0, 1, 2)", van.odds(0, 1, 2), ChimeVan.OUTSIDE);
        for (int wrong : WRONG) {
            CHECK.due("odds(" + wrong + ", 1, 0)", van.odds(wrong, 1, 0), ChimeVan.UNKNOWN);
            CHECK.due("odds(0, " + wrong + ", 0)", van.odds(0, wrong, 0), ChimeVan.OUTSIDE);
            CHECK.due("odds(0, 1, " + wrong + ")", van.odds(0, 1, wrong), ChimeVan.OUTSIDE);
        }
    }

    private static void eveningsAsTold() {
        ChimeVan van = Check.of("31;01,12;p000,p200,p109");
        // By hand: from seed 0 the seeds are 12345, 1406932606, 654583775; the draws of two roads 0, 0, 0.
        CHECK.due("evenings(1, 0, 2)", van.evenings(1, 0, 2), 12345);
        CHECK.due("evenings(2, 0, 2)", van.evenings(2, 0, 2), 1406932606);
        CHECK.due("evenings(3, 0, 2)", van.evenings(3, 0, 2), 654583775);
        CHECK.due("evenings(1, 0, 1)", van.evenings(1, 0, 1), 0);
        CHECK.due("evenings(2, 0, 1)", van.evenings(2, 0, 1), 1);
        CHECK.due("evenings(3, 0, 1)", van.evenings(3, 0, 1), 0);
        CHECK.due("evenings(1, 0, 0)", van.evenings(1, 0, 0), 1);
        CHECK.due("evenings(2, 0, 0)", van.evenings(2, 0, 0), 2);
        CHECK.due("evenings(3, 0, 0)", van.evenings(3, 0, 0), 2);
        CHECK.due("hour", van.count(4), 0);
        CHECK.due("van", van.count(3), 1);
        CHECK.due("served", van.count(5), 0);
        van.go(0);
        CHECK.due("who is served already does not count", van.evenings(1, 0, 0), 1);
        van.stand(2);
        CHECK.due("a road that does not end there", van.evenings(1, 0, 1), 2);
        ChimeVan lane = Check.of("20;01;p000,p100");
        CHECK.due("evenings(3, 7, 1) by the only road", lane.evenings(3, 7, 1), 1);
        CHECK.due("evenings(3, 7, 0) by the only road", lane.evenings(3, 7, 0), 2);
        long seed = Integer.MAX_VALUE;
        for (int hours = 1; hours <= 60; hours++) {
            seed = (1103515245L * seed + 12345L) % 2147483648L;
            CHECK.due("evenings(" + hours + ", most, 2)", van.evenings(hours, Integer.MAX_VALUE, 2), seed);
        }
    }

    private static void eveningsRefusals() {
        ChimeVan van = Check.of("20;01;p000,p100");
        CHECK.due("evenings(0, 0, 0)", van.evenings(0, 0, 0), ChimeVan.OUTSIDE);
        CHECK.due("evenings(61, 0, 0)", van.evenings(61, 0, 0), ChimeVan.OUTSIDE);
        CHECK.due("evenings(1, -1, 0)", van.evenings(1, -1, 0), ChimeVan.OUTSIDE);
        CHECK.due("evenings(1, least, 0)", van.evenings(1, Integer.MIN_VALUE, 0), ChimeVan.OUTSIDE);
        CHECK.due("evenings(1, 0, 3)", van.evenings(1, 0, 3), ChimeVan.OUTSIDE);
        for (int wrong : WRONG) {
            CHECK.due("evenings(" + wrong + ", 0, 0)", van.evenings(wrong, 0, 0), ChimeVan.OUTSIDE);
            CHECK.due("evenings(1, 0, " + wrong + ")", van.evenings(1, 0, wrong), ChimeVan.OUTSIDE);
        }
    }
}
