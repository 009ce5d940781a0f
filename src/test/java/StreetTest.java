/** Promises 8 to 12: road, corner, far, go, stand. */
public final class StreetTest {
    private static final Check CHECK = new Check("StreetTest");
    private static final int[] WRONG = {-1, Integer.MIN_VALUE, Integer.MAX_VALUE};

    public static void main(String[] args) {
        roads();
        corners();
        catches();
        distances();
        hours();
        stands();
        CHECK.end();
    }

    private static void roads() {
        ChimeVan van = Check.of("60;10,25,52;p000,p000");
        int[][] ends = {{1, 0}, {2, 5}, {5, 2}};
        for (int road = 0; road < 3; road++) {
            CHECK.due("road(" + road + ", 0)", van.road(road, 0), ends[road][0]);
            CHECK.due("road(" + road + ", 1)", van.road(road, 1), ends[road][1]);
        }
        CHECK.due("road(3, 0)", van.road(3, 0), ChimeVan.UNKNOWN);
        CHECK.due("road(3, 2)", van.road(3, 2), ChimeVan.UNKNOWN);
        CHECK.due("road(0, 2)", van.road(0, 2), ChimeVan.OUTSIDE);
        for (int wrong : WRONG) {
            CHECK.due("road(" + wrong + ", 0)", van.road(wrong, 0), ChimeVan.UNKNOWN);
            CHECK.due("road(0, " + wrong + ")", van.road(0, wrong), ChimeVan.OUTSIDE);
        }
    }

    private static void corners() {
        ChimeVan van = Check.of("50;01,12,21,23;p100,c000,t100,p400");
        int[] near = {2, 5, 10, 4, 0};
        int[] who = {2, 5, 0, 0, 8};
        int[] far = {0, 1, 2, 3, ChimeVan.NONE};
        for (int corner = 0; corner < 5; corner++) {
            CHECK.due("corner(" + corner + ", 0)", van.corner(corner, 0), near[corner]);
            CHECK.due("corner(" + corner + ", 1)", van.corner(corner, 1), who[corner]);
            CHECK.due("corner(" + corner + ", 2)", van.corner(corner, 2), far[corner]);
        }
        van.go(1);
        CHECK.due("the served are still there", van.corner(1, 1), 5);
        CHECK.due("the van is nearer", van.corner(3, 2), 2);
        CHECK.due("corner(5, 0)", van.corner(5, 0), ChimeVan.UNKNOWN);
        CHECK.due("corner(5, 4)", van.corner(5, 4), ChimeVan.UNKNOWN);
        CHECK.due("corner(0, 4)", van.corner(0, 4), ChimeVan.OUTSIDE);
        for (int wrong : WRONG) {
            CHECK.due("corner(" + wrong + ", 0)", van.corner(wrong, 0), ChimeVan.UNKNOWN);
            CHECK.due("corner(0, " + wrong + ")", van.corner(0, wrong), ChimeVan.OUTSIDE);
        }
    }

    private static void catchIs(String text, int... due) {
        ChimeVan van = Check.of(text);
        for (int corner = 0; corner < due.length; corner++) {
            CHECK.due("corner(" + corner + ", 3) of " + text, van.corner(corner, 3), due[corner]);
        }
    }

    private static void catches() {
        int none = ChimeVan.NONE;
        catchIs("20;01;p000,p000", 0, 1);
        catchIs("30;01,12,20;p000,p000", 0, 1, 1);
        catchIs("40;01,12,23,30;p000,p000", 0, none, none, none);
        catchIs("40;01,12,23;p000,p000", 0, 1, 2, 3);
        catchIs("42;01,12,23;p000,p000", 3, 2, 0, 3);
        catchIs("60;01,12,23,34,45;p000,p000", 0, 1, 2, 3, 4, 5);
        catchIs("40;01,23;p000,p000", 0, 1, none, none);
    }

    private static void distances() {
        ChimeVan van = Check.of("60;01,12,23,34;p000,p000");
        for (int from = 0; from < 6; from++) {
            for (int to = 0; to < 6; to++) {
                boolean isWay = from == to || from != 5 && to != 5;
                int due = isWay ? Math.abs(from - to) : ChimeVan.NONE;
                CHECK.due("far(" + from + ", " + to + ")", van.far(from, to), due);
            }
        }
        CHECK.due("far(6, 0)", van.far(6, 0), ChimeVan.UNKNOWN);
        CHECK.due("far(0, 6)", van.far(0, 6), ChimeVan.UNKNOWN);
        for (int wrong : WRONG) {
            CHECK.due("far(" + wrong + ", 0)", van.far(wrong, 0), ChimeVan.UNKNOWN);
            CHECK.due("far(0, " + wrong + ")", van.far(0, wrong), ChimeVan.UNKNOWN);
        }
    }

    private static void hours() {
        ChimeVan van = Check.of("30;01,12;p100,t100,c100,h100,d100,p120");
        CHECK.due("go(2)", van.go(2), ChimeVan.STATE);
        CHECK.due("go(3)", van.go(3), ChimeVan.UNKNOWN);
        CHECK.due("go(-1)", van.go(-1), ChimeVan.UNKNOWN);
        CHECK.due("hour behind refusals", van.count(4), 0);
        CHECK.due("hour 1, a person and a child", van.go(1), 2);
        CHECK.due("hour 2, a thinker, a hedge, and a late person", van.go(1), 3);
        CHECK.due("hour 3, a doctor", van.go(1), 1);
        CHECK.due("hour 4, nobody is left", van.go(1), 0);
        CHECK.due("count(4)", van.count(4), 4);
        CHECK.due("count(5)", van.count(5), 6);
        CHECK.due("count(6)", van.count(6), 10);

        van = Check.of("20;01;c100,h100,t100,d100");
        CHECK.due("hour 1, elsewhere", van.go(0), 0);
        CHECK.due("hour 2, a child hears nothing", van.go(1), 0);
        CHECK.due("child's counts", van.person(0, 5), 0);
        CHECK.due("hour 3, elsewhere", van.go(0), 0);
        CHECK.due("hedge counts 0 again", van.person(1, 5), 0);
        CHECK.due("thinker's counts are kept", van.person(2, 5), 1);
        CHECK.due("hour 4, a thinker", van.go(1), 1);
        CHECK.due("hour 5, a child, a hedge, a doctor", van.go(1), 3);
        CHECK.due("hour 6, elsewhere", van.go(0), 0);
        CHECK.due("a served hedge keeps what it counts", van.person(1, 5), 2);
    }

    private static void stands() {
        ChimeVan van = Check.of("30;01;h100,p200");
        CHECK.due("go(1)", van.go(1), 0);
        CHECK.due("stand(2), with no road there", van.stand(2), 1);
        CHECK.due("count(3)", van.count(3), 2);
        CHECK.due("count(4)", van.count(4), 1);
        CHECK.due("nobody is served by it", van.count(5), 0);
        CHECK.due("hedge counts as before", van.person(0, 5), 1);
        CHECK.due("stand(3)", van.stand(3), ChimeVan.UNKNOWN);
        CHECK.due("stand(-1)", van.stand(-1), ChimeVan.UNKNOWN);
        CHECK.due("stand(0)", van.stand(0), 2);
        CHECK.due("go(1) goes on", van.go(1), 1);
    }
}
