/** Promises 6, 7 and 13: person, as, call. */
public final class PeopleTest {
    private static final Check CHECK = new Check("PeopleTest");
    private static final int[] WRONG = {-1, Integer.MIN_VALUE, Integer.MAX_VALUE};

    public static void main(String[] args) {
        facts();
        soon();
        kinds();
        calls();
        CHECK.end();
    }

    private static void facts(ChimeVan van, int who, int... due) {
        for (int what = 0; what < due.length; what++) {
            CHECK.due("person(" + who + ", " + what + ")", van.person(who, what), due[what]);
        }
    }

    private static void facts() {
        ChimeVan van = Check.of("40;01,12;p102,t211,c303,h000,d124");
        facts(van, 0, 0, 1, 0, 2, 0, 0, 1, 1, 1);
        facts(van, 1, 1, 2, 1, 1, 0, 0, 2, 0, 3);
        facts(van, 2, 2, 3, 0, 3, 0, 0, 1, 0, ChimeVan.NONE);
        facts(van, 3, 3, 0, 0, 0, 0, 0, 2, 1, 2);
        facts(van, 4, 4, 1, 2, 4, 0, 0, 3, 1, 4);
        van.go(0);
        facts(van, 3, 3, 0, 0, 0, 0, 1, 2, 1, 1);
        van.go(1);
        facts(van, 0, 0, 1, 0, 2, 1, 1, 1, 1, 0);
        facts(van, 3, 3, 0, 0, 0, 0, 0, 2, 0, 2);
        facts(van, 4, 4, 1, 2, 4, 0, 1, 3, 1, 2);
        CHECK.due("person(5, 0)", van.person(5, 0), ChimeVan.UNKNOWN);
        CHECK.due("person(5, 9)", van.person(5, 9), ChimeVan.UNKNOWN);
        CHECK.due("person(0, 9)", van.person(0, 9), ChimeVan.OUTSIDE);
        for (int wrong : WRONG) {
            CHECK.due("person(" + wrong + ", 0)", van.person(wrong, 0), ChimeVan.UNKNOWN);
            CHECK.due("person(0, " + wrong + ")", van.person(0, wrong), ChimeVan.OUTSIDE);
        }
    }

    private static void soon() {
        ChimeVan van = Check.of("30;01,12;c200,c100,p290,h100,d290,c020");
        CHECK.due("a child two roads off waits for an odd hour", van.person(0, 8), 3);
        CHECK.due("a child a road off", van.person(1, 8), 1);
        CHECK.due("a person whose time is late", van.person(2, 8), 9);
        CHECK.due("a hedge a road off", van.person(3, 8), 2);
        CHECK.due("a doctor whose time is late", van.person(4, 8), 11);
        CHECK.due("a child here from hour 2 on", van.person(5, 8), 3);
        van.go(1);
        van.stand(0);
        CHECK.due("a hedge that counted, a road off", van.person(3, 8), 1);
        van.go(0);
        CHECK.due("a hedge that counts 0 again", van.person(3, 8), 2);
        CHECK.due("a child, behind an even hour", van.person(0, 8), 3);
        CHECK.due("a served child", van.person(1, 8), 0);
    }

    private static void kinds() {
        ChimeVan van = Check.of("20;01;p000,t000,c000,h000,d000");
        int none = ChimeVan.NONE;
        int[][] due = {
            {0, none, none, none, none}, {1, 1, none, none, none}, {2, none, 2, none, none},
            {3, none, none, 3, none}, {4, 4, none, none, 4}};
        for (int who = 0; who < 5; who++) {
            for (int kind = 0; kind < 5; kind++) {
                CHECK.due("as(" + who + ", " + kind + ")", van.as(who, kind), due[who][kind]);
            }
        }
        CHECK.due("as(0, 5)", van.as(0, 5), ChimeVan.OUTSIDE);
        CHECK.due("as(5, 5)", van.as(5, 5), ChimeVan.UNKNOWN);
        for (int wrong : WRONG) {
            CHECK.due("as(" + wrong + ", 0)", van.as(wrong, 0), ChimeVan.UNKNOWN);
            CHECK.due("as(0, " + wrong + ")", van.as(0, wrong), ChimeVan.OUTSIDE);
        }
    }

    private static void calls() {
        ChimeVan van = Check.of("20;01;p000,d000");
        van.go(0);
        CHECK.due("served before", van.person(0, 4), 1);
        CHECK.due("call(0, 4, 9, 8)", van.call(0, 4, 9, 8), 0);
        facts(van, 0, 4, 0, 9, 8, 0, 0, 3, 1, 10);
        CHECK.due("call(1, 0, 0, 9)", van.call(1, 0, 0, 9), 4);
        facts(van, 1, 0, 0, 0, 9, 0, 0, 1, 1, 1);
        CHECK.due("call(1, 3, 0, 0), the least", van.call(1, 3, 0, 0), 0);
        facts(van, 1, 3, 0, 0, 0, 0, 0, 2, 1, 2);
        CHECK.due("call(1, 4, 9, 9), the most", van.call(1, 4, 9, 9), 3);
        facts(van, 1, 4, 0, 9, 9, 0, 0, 3, 1, 10);
        long before = van.digest();
        CHECK.due("call(2, 9, 10, 10)", van.call(2, 9, 10, 10), ChimeVan.UNKNOWN);
        CHECK.due("call(0, 5, 0, 0)", van.call(0, 5, 0, 0), ChimeVan.OUTSIDE);
        CHECK.due("call(0, -1, 0, 0)", van.call(0, -1, 0, 0), ChimeVan.OUTSIDE);
        CHECK.due("call(0, 0, 10, 0)", van.call(0, 0, 10, 0), ChimeVan.OUTSIDE);
        CHECK.due("call(0, 0, -1, 0)", van.call(0, 0, -1, 0), ChimeVan.OUTSIDE);
        CHECK.due("call(0, 0, 0, 10)", van.call(0, 0, 0, 10), ChimeVan.OUTSIDE);
        CHECK.due("call(0, 0, 0, -1)", van.call(0, 0, 0, -1), ChimeVan.OUTSIDE);
        CHECK.due("call(-1, 0, 0, 0)", van.call(-1, 0, 0, 0), ChimeVan.UNKNOWN);
        CHECK.due("digest() behind refusals", van.digest(), before);
    }
}
