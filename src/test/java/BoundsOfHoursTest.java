/** "Terms", 1: what an hour does, who is served when, how far it is, who hears the van; each at its bounds. */
public final class BoundsOfHoursTest {
    private static final Check CHECK = new Check("BoundsOfHoursTest");
    private static final Twins TWINS = new Twins(CHECK);
    private static final String KINDS = "ptchd";
    private static final int[] NEEDS = {1, 2, 1, 2, 3};

    public static void main(String[] args) {
        atFirst();
        anHourIsOneMore();
        whoseTimeItIs();
        whoIsServedCountsNoMore();
        childrenInOddHours();
        hedgesElsewhere();
        othersElsewhere();
        alongARoadOrNot();
        bothWaysOfARoad();
        likeRoads();
        straightToOthers();
        farthestAndNearest();
        noWay();
        earsAtTheirBound();
        kindsOfKinds();
        theLastCall();
        CHECK.end();
    }

    /** "At first there is none; then it is HOUR 0, nobody is SERVED." */
    private static void atFirst() {
        ChimeVan van = Check.of("20;01;p000,c000");
        CHECK.due("the hour", van.count(4), 0);
        CHECK.due("who are served", van.count(5), 0);
        CHECK.due("what all count", van.count(6), 0);
        CHECK.due("what is seen", van.count(8), 0);
        CHECK.due("one whose time it is, where the van is", van.person(0, 4), 0);
        CHECK.due("he counts nothing", van.person(0, 5), 0);
        CHECK.due("and can be served in an hour", van.person(0, 8), 1);
    }

    /** "it is 1 more then; what follows goes by its new number". */
    private static void anHourIsOneMore() {
        ChimeVan van = Check.of("20;01;p010,p020");
        CHECK.due("hour 1 serves whom it is time for from 1 on", van.go(0), 1);
        CHECK.due("it is the first one", van.person(0, 4), 1);
        CHECK.due("the hour", van.count(4), 1);
        CHECK.due("hour 2 serves the other", van.go(0), 1);
        CHECK.due("the hour then", van.count(4), 2);
        CHECK.due("hour 3 serves nobody", van.go(1), 0);
    }

    /** The hour in which the van, that stays with him from hour 0 on, serves one. */
    private static int servedIn(int kind, int due) {
        int first = Math.max(1, due);
        if (KINDS.charAt(kind) == 'c') {
            return first % 2 == 0 ? first + 1 : first;
        }
        return first + NEEDS[kind] - 1;
    }

    /** "whose time it is (the HOUR is no less than his)"; "Who COUNTS as many as he NEEDS is SERVED". */
    private static void whoseTimeItIs() {
        for (int kind = 0; kind < 5; kind++) {
            for (int due = 0; due <= 9; due++) {
                ChimeVan van = Check.of("20;01;" + KINDS.charAt(kind) + "0" + due + "0,p190");
                CHECK.due("what he needs", van.person(0, 6), NEEDS[kind]);
                stayWith(van, kind, due, servedIn(kind, due));
            }
        }
    }

    private static void stayWith(ChimeVan van, int kind, int due, int last) {
        String name = KINDS.charAt(kind) + " from " + due + " on, ";
        for (int hour = 1; hour <= 13; hour++) {
            CHECK.due(name + "soon before hour " + hour, van.person(0, 8), hour > last ? 0 : last - hour + 1);
            CHECK.due(name + "hour " + hour, van.go(0), hour == last ? 1 : 0);
            CHECK.due(name + "served behind hour " + hour, van.person(0, 4), hour >= last ? 1 : 0);
            int less = Math.max(0, last - hour);
            CHECK.due(name + "counts behind hour " + hour, van.person(0, 5), Math.max(0, NEEDS[kind] - less));
        }
    }

    /** "and who is not SERVED". */
    private static void whoIsServedCountsNoMore() {
        for (int kind = 0; kind < 5; kind++) {
            ChimeVan van = Check.of("20;01;" + KINDS.charAt(kind) + "000,p190");
            for (int hour = 1; hour <= 9; hour++) {
                van.go(0);
            }
            CHECK.due("counts of kind " + kind, van.person(0, 5), NEEDS[kind]);
            CHECK.due("the other one, at another corner", van.person(1, 5), 0);
            CHECK.due("who are served", van.count(5), 1);
        }
    }

    /** "(a CHILD only if the HOUR is odd)". */
    private static void childrenInOddHours() {
        ChimeVan van = Check.of("20;01;c100,p190");
        CHECK.due("hour 1, elsewhere", van.go(0), 0);
        CHECK.due("hour 2 is even", van.go(1), 0);
        CHECK.due("it counts nothing", van.person(0, 5), 0);
        CHECK.due("hour 3, elsewhere", van.go(0), 0);
        CHECK.due("hour 4 is even", van.go(1), 0);
        CHECK.due("soon", van.person(0, 8), 1);
        CHECK.due("hour 5 is odd", van.go(1), 1);
        van = Check.of("20;01;c010,c020");
        CHECK.due("hour 1 serves the one from 1 on", van.go(0), 1);
        CHECK.due("hour 2 serves nobody", van.go(0), 0);
        CHECK.due("hour 3 serves the one from 2 on", van.go(0), 1);
    }

    /** "of each HEDGE elsewhere that is not SERVED what it COUNTS is 0 again". */
    private static void hedgesElsewhere() {
        ChimeVan van = Check.of("30;01,12;h000,h100,h200");
        van.go(0);
        CHECK.due("a hedge counts", van.person(0, 5), 1);
        van.go(1);
        CHECK.due("elsewhere it counts 0 again", van.person(0, 5), 0);
        CHECK.due("the other counts", van.person(1, 5), 1);
        CHECK.due("go(1)", van.go(1), 1);
        van.go(2);
        CHECK.due("served, it keeps what it counts", van.person(1, 5), 2);
        CHECK.due("and is served", van.person(1, 4), 1);
        CHECK.due("each hedge has its own", van.person(2, 5), 1);
        van.stand(0);
        CHECK.due("the van elsewhere without an hour leaves it", van.person(2, 5), 1);
        van.go(0);
        CHECK.due("an hour elsewhere does not", van.person(2, 5), 0);
        CHECK.due("the hedge there counts", van.person(0, 5), 1);
    }

    private static void othersElsewhere() {
        ChimeVan van = Check.of("20;01;t000,d000,t100,d100");
        van.go(0);
        van.go(1);
        CHECK.due("a thinker keeps what he counts", van.person(0, 5), 1);
        CHECK.due("a doctor keeps what he counts", van.person(1, 5), 1);
        CHECK.due("back again the thinker is served", van.go(0), 1);
        CHECK.due("elsewhere the other one", van.go(1), 1);
        CHECK.due("back again the doctor", van.go(0), 1);
        CHECK.due("elsewhere the other doctor", van.go(1), 1);
    }

    /** "the VAN goes along a ROAD to the CORNER at its other end, or stays". */
    private static void alongARoadOrNot() {
        ChimeVan van = Check.of("50;01,12,23;p000,p400");
        CHECK.due("it stays", van.go(0), 1);
        CHECK.due("along a road", van.go(1), 0);
        CHECK.due("it is there", van.count(3), 1);
        van = Check.of("54;01,12,23;p000,p400");
        CHECK.due("it stays where no road ends", van.go(4), 1);
        CHECK.due("it is there still", van.count(3), 4);
        for (int corner = 2; corner < 5; corner++) {
            int goal = corner;
            TWINS.unchanged("go(" + goal + ") without a road there",
                    each -> read(each, "50;01,12,23;p000,p400"), each -> each.go(goal), ChimeVan.STATE);
        }
    }

    private static void bothWaysOfARoad() {
        ChimeVan van = Check.of("30;01,21;p000,p200");
        CHECK.due("from its first end", van.go(1), 0);
        CHECK.due("from its second end", van.go(2), 1);
        CHECK.due("from its first end", van.go(1), 0);
        CHECK.due("from its second end", van.go(0), 1);
    }

    /** Two and three roads between the same corners are no less than one, whichever end is told first. */
    private static void likeRoads() {
        for (String roads : new String[] {"01,01", "01,10", "10,10", "01,01,10"}) {
            ChimeVan van = Check.of("30;" + roads + ";p100,p200");
            CHECK.due("corner(0, 0) by " + roads, van.corner(0, 0), 2);
            CHECK.due("corner(1, 0) by " + roads, van.corner(1, 0), 1);
            CHECK.due("far(0, 1) by " + roads, van.far(0, 1), 1);
            CHECK.due("corner(1, 3) by " + roads, van.corner(1, 3), 1);
            CHECK.due("go(1) by " + roads, van.go(1), 1);
            CHECK.due("go(0) by " + roads, van.go(0), 0);
        }
    }

    /** "to which others a ROAD leads straight, as bits", "who is there, as bits": none, some, all. */
    private static void straightToOthers() {
        ChimeVan van = Check.of("60;01,02,03,04,34;p000,p300,p500,p300,p300,p000");
        int[] straight = {30, 1, 1, 17, 9, 0};
        int[] there = {33, 0, 0, 26, 0, 4};
        for (int corner = 0; corner < 6; corner++) {
            CHECK.due("corner(" + corner + ", 0)", van.corner(corner, 0), straight[corner]);
            CHECK.due("corner(" + corner + ", 1)", van.corner(corner, 1), there[corner]);
        }
        van = Check.of("65;50,51,52,53,54;p500,p500,p500,p500,p500,p500");
        CHECK.due("to all others", van.corner(5, 0), 31);
        CHECK.due("all are there", van.corner(5, 1), 63);
        van.go(5);
        CHECK.due("all are served", van.count(5), 6);
        CHECK.due("and are there still", van.corner(5, 1), 63);
    }

    private static void read(ChimeVan van, String text) {
        Check.type(van, text);
        van.suburb();
    }

    /** "FAR from a CORNER to another one is the fewest ROADS". */
    private static void farthestAndNearest() {
        ChimeVan lane = Check.of("60;01,12,23,34,45;p000,p500");
        ChimeVan ring = Check.of("60;01,12,23,34,45,50;p000,p500");
        ChimeVan star = Check.of("60;01,02,03,04,05;p000,p500");
        for (int from = 0; from < 6; from++) {
            for (int to = 0; to < 6; to++) {
                int apart = Math.abs(from - to);
                CHECK.due("far(" + from + ", " + to + ") in a lane", lane.far(from, to), apart);
                CHECK.due("far(" + from + ", " + to + ") in a ring", ring.far(from, to), Math.min(apart, 6 - apart));
                int bySun = from == to ? 0 : from == 0 || to == 0 ? 1 : 2;
                CHECK.due("far(" + from + ", " + to + ") in a star", star.far(from, to), bySun);
            }
        }
        CHECK.due("five roads by a lane", lane.corner(5, 2), 5);
        CHECK.due("one road by a ring", ring.corner(5, 2), 1);
        CHECK.due("no road where the van is", lane.corner(0, 2), 0);
    }

    /** "none, if there is no way". */
    private static void noWay() {
        ChimeVan van = Check.of("62;01,12,34;p009,p309,p509,p209");
        int none = ChimeVan.NONE;
        CHECK.due("far(0, 3)", van.far(0, 3), none);
        CHECK.due("far(3, 0)", van.far(3, 0), none);
        CHECK.due("far(5, 0)", van.far(5, 0), none);
        CHECK.due("far(5, 5)", van.far(5, 5), 0);
        CHECK.due("far(3, 4)", van.far(3, 4), 1);
        CHECK.due("corner(3, 2)", van.corner(3, 2), none);
        CHECK.due("corner(5, 2)", van.corner(5, 2), none);
        CHECK.due("corner(3, 3)", van.corner(3, 3), none);
        CHECK.due("ears do not help", van.person(1, 7), 0);
        CHECK.due("nor here", van.person(2, 7), 0);
        CHECK.due("soon", van.person(1, 8), none);
        CHECK.due("soon where no road ends", van.person(2, 8), none);
        van.stand(5);
        CHECK.due("soon when it stands there", van.person(2, 8), 1);
        CHECK.due("soon when it is off the roads", van.person(0, 8), none);
        CHECK.due("he hears it", van.person(2, 7), 1);
    }

    /** "One HEARS the VAN, if it is no farther than his EARS tell." */
    private static void earsAtTheirBound() {
        ChimeVan van = Check.of("60;01,12,23,34,45;p000,t000,c000,h000,d000,p500");
        for (int ears = 0; ears <= 9; ears++) {
            for (int kind = 0; kind < 5; kind++) {
                van.call(kind, kind, 0, ears);
            }
            for (int at = 0; at < 6; at++) {
                van.stand(at);
                CHECK.due(ears + " ears, " + at + " roads off", van.person(ears % 5, 7), at <= ears ? 1 : 0);
                CHECK.due("who hear it so", van.count(7), (at <= ears ? 5 : 0) + (at == 5 ? 1 : 0));
            }
        }
    }

    /** "All are PEOPLE; a DOCTOR is a THINKER, too." */
    private static void kindsOfKinds() {
        ChimeVan van = Check.of("20;01;p000,t000,c000,h000,d000");
        CHECK.due("a doctor as a thinker", van.as(4, 1), 4);
        CHECK.due("a thinker as a doctor", van.as(1, 4), ChimeVan.NONE);
        CHECK.due("a doctor as a child", van.as(4, 2), ChimeVan.NONE);
        CHECK.due("a doctor as a hedge", van.as(4, 3), ChimeVan.NONE);
        CHECK.due("a person as a thinker", van.as(0, 1), ChimeVan.NONE);
        for (int who = 0; who < 5; who++) {
            CHECK.due("each as one of the people", van.as(who, 0), who);
            CHECK.due("each as his own kind", van.as(who, who), who);
        }
        van.call(0, 4, 0, 0);
        CHECK.due("who has become a doctor", van.as(0, 1), 0);
    }

    /** "An object is used for at most 512 calls": the last of them is answered as all others. */
    private static void theLastCall() {
        ChimeVan van = new ChimeVan();
        String text = "20;01;d190,p100";
        Check.type(van, text);
        van.suburb();
        int calls = text.length() + 1;
        for (int hour = 1; calls < 511; hour++) {
            van.go(hour % 2);
            calls++;
        }
        CHECK.due("the 512th call", van.count(4), 511 - 16);
    }
}
