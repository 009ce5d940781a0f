/** "Terms", 2 and the evenings of 3: soon, round, catch, odds, evenings and their draws, each at its bounds. */
public final class BoundsOfAheadTest {
    private static final Check CHECK = new Check("BoundsOfAheadTest");
    private static final Twins TWINS = new Twins(CHECK);
    private static final String LANE = "60;01,12,23,34,45;p500,p590";
    private static final long WHOLE = 1L << 31;

    public static void main(String[] args) {
        soonWhenServed();
        soonFarOff();
        soonLate();
        soonOfHedges();
        roundOfOneToFive();
        roundMostServed();
        roundMostCounted();
        roundFirstByNumbers();
        roundGoesByHours();
        catchNow();
        catchAtLast();
        catchNever();
        catchKnowing();
        oddsOfOneToFour();
        oddsByRoads();
        oddsInLowestTerms();
        oddsWhereNoRoadEnds();
        eveningsOfOneToSixty();
        drawsAtTheirBounds();
        drawsOfSoManyRoads();
        eveningsStay();
        eveningsServeMore();
        CHECK.end();
    }

    /** "(0: he is SERVED; 40 at most)". */
    private static void soonWhenServed() {
        ChimeVan van = Check.of("30;01;p000,p200,t000");
        CHECK.due("before", van.person(0, 8), 1);
        van.go(0);
        CHECK.due("he is served", van.person(0, 8), 0);
        CHECK.due("who needs one more", van.person(2, 8), 1);
        van.stand(2);
        CHECK.due("he is served, though there is no way", van.person(0, 8), 0);
        CHECK.due("no way to who needs one more", van.person(2, 8), ChimeVan.NONE);
        van.call(0, 0, 0, 0);
        CHECK.due("he is called again", van.person(0, 8), ChimeVan.NONE);
    }

    private static void soonFarOff() {
        ChimeVan van = Check.of("60;01,12,23,34,45;p500,t500,c500,h500,d500,c400");
        int[] due = {5, 6, 5, 6, 7, 5};
        for (int who = 0; who < 6; who++) {
            CHECK.due("soon of " + who + ", five or four roads off", van.person(who, 8), due[who]);
        }
        van.go(0);
        int[] later = {5, 6, 6, 6, 7, 4};
        for (int who = 0; who < 6; who++) {
            CHECK.due("soon of " + who + " an hour later", van.person(who, 8), later[who]);
        }
    }

    /** The longest there is: a doctor from hour 9 on; that is far below 40. */
    private static void soonLate() {
        ChimeVan van = Check.of("60;01,12,23,34,45;d590,d090,h590,c590,t590,p590");
        int[] due = {11, 11, 10, 9, 10, 9};
        for (int who = 0; who < 6; who++) {
            CHECK.due("soon of " + who + " from hour 9 on", van.person(who, 8), due[who]);
        }
        for (int hour = 1; hour <= 9; hour++) {
            van.go(0);
        }
        CHECK.due("a doctor who counts 1", van.person(1, 8), 2);
        CHECK.due("a doctor whose time has come, five roads off", van.person(0, 8), 7);
    }

    private static void soonOfHedges() {
        ChimeVan van = Check.of("30;01,12;h000,p100");
        van.go(0);
        CHECK.due("it counts 1, the van stays", van.person(0, 8), 1);
        van.stand(1);
        CHECK.due("it counts 1, a road off", van.person(0, 8), 1);
        van.stand(2);
        CHECK.due("it will count 0 again, two roads off", van.person(0, 8), 3);
    }

    /** "ROUND for so many HOURS (1 to 5)"; "(NONE: there are not so many)". */
    private static void roundOfOneToFive() {
        for (int hours = 1; hours <= 5; hours++) {
            ChimeVan van = Check.of(LANE);
            CHECK.due("how many in " + hours, van.round(hours, 0), hours == 5 ? 1 : 0);
            CHECK.due("how much in " + hours, van.round(hours, 1), 0);
            for (int nth = 0; nth < 5; nth++) {
                int along = hours == 5 ? nth + 1 : 0;
                int due = nth < hours ? along : ChimeVan.NONE;
                CHECK.due("round(" + hours + ", " + (10 + nth) + ")", van.round(hours, 10 + nth), due);
            }
            CHECK.due("how often it was done", van.count(11), 7);
            int outside = ChimeVan.OUTSIDE;
            CHECK.due("round(" + hours + ", 9)", van.round(hours, 9), outside);
            CHECK.due("round(" + hours + ", 15)", van.round(hours, 15), outside);
            CHECK.due("round(" + hours + ", 2)", van.round(hours, 2), outside);
            CHECK.due("round(" + hours + ", -1)", van.round(hours, -1), outside);
        }
    }

    private static void roundIs(String text, int hours, int many, int much, int... way) {
        roundIs(Check.of(text), text, hours, many, much, way);
    }

    private static void roundIs(ChimeVan van, String name, int hours, int many, int much, int... way) {
        CHECK.due(name + ", how many", van.round(hours, 0), many);
        CHECK.due(name + ", how much", van.round(hours, 1), much);
        for (int nth = 0; nth < hours; nth++) {
            CHECK.due(name + ", where in hour " + nth, van.round(hours, 10 + nth), way[nth]);
        }
    }

    /** "so that most are SERVED more by these": ahead of what they count; who is served before is left out. */
    private static void roundMostServed() {
        roundIs("30;01,02;p100,d200,d200,d200", 1, 1, 0, 1);
        roundIs("30;01,02;p200,d100,d100,d100", 1, 1, 0, 2);
        roundIs("20;01;p000,p000,p000,p000,p000,p000", 1, 6, 0, 0);
        ChimeVan van = Check.of("30;01,02;p000,p200,p100");
        van.go(0);
        roundIs(van, "one is served before", 1, 1, 0, 1);
        van.go(2);
        van.go(0);
        van.go(1);
        roundIs(van, "all are served before", 2, 0, 0, 0, 0);
    }

    /** "of these so that what all who are not SERVED then COUNT together is most". */
    private static void roundMostCounted() {
        roundIs("30;01,02;t100,d200,d200", 1, 0, 2, 2);
        roundIs("30;01,02;t100,d200", 1, 0, 1, 1);
        roundIs("30;01,02;p100,p200,d200", 1, 1, 1, 2);
        ChimeVan van = Check.of("30;01,12;t000,h000,p290");
        van.go(0);
        van.stand(1);
        roundIs(van, "a hedge elsewhere counts 0 again, one there is served", 1, 2, 0, 0);
        van = Check.of("30;01,12;d000,h000,p190");
        van.go(0);
        roundIs(van, "what the doctor counted before is told, too", 1, 1, 2, 0);
        van.stand(2);
        roundIs(van, "of the hedge nothing is left", 1, 0, 1, 1);
    }

    /** "of like ones the first by numbers". */
    private static void roundFirstByNumbers() {
        roundIs("30;02,01;p200,p100", 1, 1, 0, 1);
        roundIs("32;20,21;p100,p000", 1, 1, 0, 0);
        roundIs("31;12,10;p190,p190", 3, 0, 0, 0, 0, 0);
        roundIs("52;21,23;p190,p190", 2, 0, 0, 1, 1);
        roundIs("30;01,02;p200,p100", 3, 2, 0, 1, 0, 2);
        roundIs("30;01,02,12;p200,p100", 3, 2, 0, 0, 1, 2);
        roundIs("30;01,02,12;p200,p100", 2, 2, 0, 1, 2);
        roundIs("53;01;p190,p190", 5, 0, 0, 3, 3, 3, 3, 3);
    }

    private static void roundGoesByHours() {
        ChimeVan van = Check.of("20;01;p050,p190");
        roundIs(van, "his time is in 5 hours", 4, 0, 0, 0, 0, 0, 0);
        roundIs(van, "his time is then", 5, 1, 0, 0, 0, 0, 0, 0);
        van.go(1);
        roundIs(van, "an hour later", 4, 1, 0, 0, 0, 0, 0);
        CHECK.due("how often it was done", van.count(11), 6 + 7 + 6);
    }

    private static void catchIs(String text, int... due) {
        ChimeVan van = Check.of(text);
        for (int corner = 0; corner < due.length; corner++) {
            CHECK.due("corner(" + corner + ", 3) of " + text, van.corner(corner, 3), due[corner]);
        }
    }

    /** "(0: she is there now)". */
    private static void catchNow() {
        ChimeVan van = Check.of("60;01,12,23,34,45,50;p000,p000");
        for (int corner = 0; corner < 6; corner++) {
            van.stand(corner);
            CHECK.due("corner(" + corner + ", 3) where the van is", van.corner(corner, 3), 0);
            CHECK.due("corner(" + (corner + 1) % 6 + ", 3) beside it", van.corner((corner + 1) % 6, 3), ChimeVan.NONE);
        }
        catchIs("32;01;p000,p000", ChimeVan.NONE, ChimeVan.NONE, 0);
    }

    /** "in how few HOURS (1 to 40) she is surely at its CORNER behind both went". */
    private static void catchAtLast() {
        catchIs("20;01;p000,p000", 0, 1);
        catchIs("21;01;p000,p000", 1, 0);
        catchIs("30;01,12,20;p000,p000", 0, 1, 1);
        catchIs("60;01,12,23,34,45;p000,p000", 0, 1, 2, 3, 4, 5);
        catchIs("61;01,12,23,34,45;p000,p000", 5, 0, 2, 3, 4, 5);
        catchIs("61;01,02,03,04,05;p000,p000", 1, 0, 2, 2, 2, 2);
        catchIs("60;01,02,03,04,05;p000,p000", 0, 2, 2, 2, 2, 2);
    }

    /** "none". */
    private static void catchNever() {
        int none = ChimeVan.NONE;
        catchIs("40;01,12,23,30;p000,p000", 0, none, none, none);
        catchIs("50;01,12,23,34,40;p000,p000", 0, none, none, none, none);
        catchIs("40;01,23;p000,p000", 0, 1, none, none);
        catchIs("53;01,12,20;p000,p000", none, none, none, 0, none);
    }

    /** "the VAN goes (or stays) first, as it likes, then she goes along a ROAD, or stays, knowing where it is". */
    private static void catchKnowing() {
        catchIs("41;01,12,23,30,02;p000,p000", 1, 0, 1, 2);
        catchIs("40;01,12,23,30,02;p000,p000", 0, 2, 1, 2);
    }

    private static void oddsAre(ChimeVan van, int who, int hours, int above, int below) {
        CHECK.due("odds(" + who + ", " + hours + ", 0)", van.odds(who, hours, 0), above);
        CHECK.due("odds(" + who + ", " + hours + ", 1)", van.odds(who, hours, 1), below);
    }

    /** "ODDS for one and so many HOURS (1 to 4)". */
    private static void oddsOfOneToFour() {
        ChimeVan van = Check.of("50;01,12,23,34;p000,p100,p200,p300,p400");
        oddsAre(van, 0, 1, 0, 1);
        oddsAre(van, 1, 1, 1, 1);
        oddsAre(van, 0, 2, 1, 2);
        oddsAre(van, 2, 2, 1, 2);
        oddsAre(van, 1, 3, 3, 4);
        oddsAre(van, 3, 3, 1, 4);
        oddsAre(van, 0, 4, 3, 8);
        oddsAre(van, 2, 4, 1, 2);
        oddsAre(van, 4, 4, 1, 8);
        oddsAre(van, 1, 4, 0, 1);
        for (int hours : new int[] {0, 5}) {
            CHECK.due("odds(0, " + hours + ", 0)", van.odds(0, hours, 0), ChimeVan.OUTSIDE);
            CHECK.due("odds(0, " + hours + ", 1)", van.odds(0, hours, 1), ChimeVan.OUTSIDE);
        }
    }

    /** "along one of the ROADS that end where it is, each as likely": roads, not corners. */
    private static void oddsByRoads() {
        ChimeVan van = Check.of("30;01,01,10,01,10,01,01,02;p000,p100,p200");
        oddsAre(van, 1, 1, 7, 8);
        oddsAre(van, 2, 1, 1, 8);
        oddsAre(van, 0, 4, 1, 1);
        oddsAre(van, 2, 3, 1, 8);
        van = Check.of("20;01,01,01,01,01,01,01,01;p000,p100");
        oddsAre(van, 1, 1, 1, 1);
        oddsAre(van, 0, 1, 0, 1);
    }

    /** "in lowest terms (0 of 1)"; four, three and one road between three corners, by hand. */
    private static void oddsInLowestTerms() {
        ChimeVan van = Check.of("30;01,01,01,01,02,02,02,12;p000,p100,p200");
        oddsAre(van, 0, 1, 0, 1);
        oddsAre(van, 1, 1, 4, 7);
        oddsAre(van, 2, 1, 3, 7);
        oddsAre(van, 0, 2, 109, 140);
        oddsAre(van, 1, 2, 3, 28);
        oddsAre(van, 2, 2, 4, 35);
        oddsAre(van, 0, 4, 3161, 4900);
    }

    /** "(stays, if there is none)". */
    private static void oddsWhereNoRoadEnds() {
        ChimeVan van = Check.of("32;01;p000,p200,p100");
        for (int hours = 1; hours <= 4; hours++) {
            oddsAre(van, 0, hours, 0, 1);
            oddsAre(van, 1, hours, 1, 1);
        }
        van.stand(0);
        oddsAre(van, 1, 4, 0, 1);
        oddsAre(van, 2, 3, 1, 1);
    }

    private static long next(long seed) {
        return (1103515245L * seed + 12345L) % WHOLE;
    }

    /** The seed whose next one is this: the factor is odd, so there is one; it is found bit by bit. */
    private static int before(long goal) {
        long seed = 0;
        for (int bit = 0; bit < 31; bit++) {
            boolean isSame = ((next(seed) ^ goal) >> bit & 1) == 0;
            seed |= isSame ? 0 : 1L << bit;
        }
        return (int) seed;
    }

    /** hours (1 to 60), seed (0 at least), what (0 to 2). */
    private static void eveningsOfOneToSixty() {
        ChimeVan van = Check.of("20;01;p000,p100");
        long[] seeds = {0, 1, Integer.MAX_VALUE};
        for (long first : seeds) {
            long seed = first;
            for (int hours = 1; hours <= 60; hours++) {
                seed = next(seed);
                CHECK.due("the seed then", van.evenings(hours, (int) first, 2), seed);
                CHECK.due("the corner then", van.evenings(hours, (int) first, 1), hours % 2);
            }
        }
        int outside = ChimeVan.OUTSIDE;
        CHECK.due("evenings(0, 0, 0)", van.evenings(0, 0, 0), outside);
        CHECK.due("evenings(61, 0, 0)", van.evenings(61, 0, 0), outside);
        CHECK.due("evenings(1, -1, 0)", van.evenings(1, -1, 0), outside);
        CHECK.due("evenings(1, 0, -1)", van.evenings(1, 0, -1), outside);
        CHECK.due("evenings(1, 0, 3)", van.evenings(1, 0, 3), outside);
        CHECK.due("evenings(60, most, 0)", van.evenings(60, Integer.MAX_VALUE, 0), 2);
    }

    /** "its rest by 2 to the 31; then that by 65536 (rounded down), its rest": in a star road n leads to n + 1. */
    private static void drawsAtTheirBounds() {
        long[] goals = {0, 1, 65535, 65536, 65537, 131071, 131072, 4 * 65536, 5 * 65536 - 1, 5 * 65536,
            WHOLE / 2 - 1, WHOLE / 2, WHOLE - 65537, WHOLE - 65536, WHOLE - 1};
        ChimeVan van = Check.of("60;01,02,03,04,05;p100,p200,p300,p400,p500");
        for (long goal : goals) {
            int seed = before(goal);
            CHECK.due("the seed behind " + seed, van.evenings(1, seed, 2), goal);
            CHECK.due("the corner behind " + seed, van.evenings(1, seed, 1), goal / 65536 % 5 + 1);
            CHECK.due("who is served behind " + seed, van.evenings(1, seed, 0), 1);
        }
    }

    /** "by a DRAW of how many there are". */
    private static void drawsOfSoManyRoads() {
        String roads = "01,02,03,04,05,12,13,14";
        int[] ends = {1, 2, 3, 4, 5, 0, 0, 0};
        for (int number = 1; number <= 8; number++) {
            ChimeVan van = Check.of("60;" + roads.substring(0, 3 * number - 1) + ";p000,p100");
            for (int draw = 0; draw <= 16; draw++) {
                int seed = before(draw * 65536L + 777);
                CHECK.due(number + " roads, draw " + draw, van.evenings(1, seed, 1), ends[draw % number]);
            }
        }
    }

    /** "if that ends where it is, else it stays". */
    private static void eveningsStay() {
        ChimeVan van = Check.of("30;01,12;p000,p200");
        int first = before(0);
        int second = before(65536);
        CHECK.due("the first road, from its first end", van.evenings(1, first, 1), 1);
        CHECK.due("the second road does not end there", van.evenings(1, second, 1), 0);
        CHECK.due("who stays is served as well", van.evenings(1, second, 0), 1);
        van.stand(1);
        CHECK.due("the first road, from its second end", van.evenings(1, first, 1), 0);
        CHECK.due("the second road, from its first end", van.evenings(1, second, 1), 2);
        van.stand(2);
        CHECK.due("the first road does not end there", van.evenings(1, first, 1), 2);
        CHECK.due("the second road, from its second end", van.evenings(1, second, 1), 1);
        ChimeVan lonely = Check.of("32;01,01;p200,p000");
        CHECK.due("no road ends there", lonely.evenings(60, 5, 1), 2);
        CHECK.due("he is served there", lonely.evenings(60, 5, 0), 1);
    }

    /** "how many are SERVED by it", "as they would be". */
    private static void eveningsServeMore() {
        ChimeVan van = Check.of("32;01;p200,p290,t200");
        CHECK.due("in an hour", van.evenings(1, 0, 0), 1);
        CHECK.due("in two", van.evenings(2, 0, 0), 2);
        CHECK.due("in eight", van.evenings(8, 0, 0), 2);
        CHECK.due("in nine", van.evenings(9, 0, 0), 3);
        van.go(2);
        CHECK.due("without him who is served before", van.evenings(8, 0, 0), 2);
        CHECK.due("his time is not yet", van.evenings(7, 0, 0), 1);
        for (int what = 0; what < 3; what++) {
            int each = what;
            TWINS.unchanged("evenings(60, 9, " + what + ")", Ways::lived, twin -> twin.evenings(60, 9, each));
        }
    }
}
