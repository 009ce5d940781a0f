import java.util.function.Consumer;
import java.util.function.ToLongFunction;

/** Promises 1 to 24: each call's refusals, at the bound and beyond it, their order, and that they change nothing. */
public final class BoundsOfCallsTest {
    private static final Check CHECK = new Check("BoundsOfCallsTest");
    private static final Twins TWINS = new Twins(CHECK);
    private static final int UNKNOWN = ChimeVan.UNKNOWN, OUTSIDE = ChimeVan.OUTSIDE, STATE = ChimeVan.STATE;
    private static final int FULL = ChimeVan.FULL, NONE = ChimeVan.NONE;

    /** A way, and how many corners, roads and people there are behind it. */
    private record Place(String name, Consumer<ChimeVan> way, int corners, int roads, int people) { }

    private static final Place FRESH = new Place("new", Ways::fresh, 0, 0, 0);
    private static final Place TYPED = new Place("typed", Ways::typed, 0, 0, 0);
    private static final Place TYPED_FULL = new Place("typed full", Ways::freshPageFull, 0, 0, 0);
    private static final Place SMALL = new Place("small", Ways::small, 2, 1, 2);
    private static final Place LARGE = new Place("large", Ways::large, 6, 8, 6);
    private static final Place LIVED = new Place("lived", Ways::lived, 6, 8, 6);
    private static final Place PAGE_FULL = new Place("page full", Ways::pageFull, 6, 8, 6);
    private static final Place SEEN_FULL = new Place("seen full", Ways::seenFull, 6, 8, 6);
    private static final Place ROUNDS_FULL = new Place("rounds full", Ways::roundsFull, 6, 8, 6);
    private static final Place MOVED = new Place("moved", Ways::moved, 2, 1, 2);
    private static final Place[] NOWHERE = {FRESH, TYPED, TYPED_FULL};
    private static final Place[] ALL = {FRESH, TYPED, TYPED_FULL, SMALL, LARGE, LIVED, PAGE_FULL, SEEN_FULL,
        ROUNDS_FULL, MOVED};

    public static void main(String[] args) {
        newObject();
        letterCodes();
        letterFull();
        blankOfEachPage();
        faultOfEachPage();
        suburbOfNone();
        suburbInsteadOfAnother();
        personRefused();
        asRefused();
        roadRefused();
        cornerRefused();
        farRefused();
        goRefused();
        goAtTheLastHour();
        standAnywhere();
        callRefused();
        callAtItsBounds();
        roundRefused();
        roundTwentyTimes();
        oddsRefused();
        seeRefused();
        forgetNothing();
        placesAndAskWithoutSuburb();
        eveningsRefused();
        imageWithoutSuburb();
        countRefused();
        digestOfEachPlace();
        tellingChangesNothing();
        CHECK.end();
    }

    private static void refused(Place place, String name, ToLongFunction<ChimeVan> call, int due) {
        TWINS.unchanged(place.name() + ": " + name, place.way(), call, due);
    }

    private static ChimeVan at(Place place) {
        ChimeVan van = new ChimeVan();
        place.way().accept(van);
        return van;
    }

    /** Numbers that are not from least to most: right beside, farther off, like ones by 32 or 256, and the utmost. */
    private static int[] beyond(int least, int most) {
        return new int[] {least - 1, least - 2, most + 1, most + 2, most + 32, least + 256, least - 256, least + 65536,
            Integer.MIN_VALUE, Integer.MIN_VALUE + least, Integer.MIN_VALUE + most,
            Integer.MAX_VALUE - most, Integer.MAX_VALUE};
    }

    /** Promise 1: "No SUBURB." */
    private static void newObject() {
        for (int what = 0; what < 12; what++) {
            int each = what;
            refused(FRESH, "count(" + what + ")", van -> van.count(each), 0);
        }
        refused(FRESH, "person(0, 0)", van -> van.person(0, 0), UNKNOWN);
        refused(FRESH, "as(0, 0)", van -> van.as(0, 0), UNKNOWN);
        refused(FRESH, "road(0, 0)", van -> van.road(0, 0), UNKNOWN);
        refused(FRESH, "corner(0, 0)", van -> van.corner(0, 0), UNKNOWN);
        refused(FRESH, "far(0, 0)", van -> van.far(0, 0), UNKNOWN);
        refused(FRESH, "go(0)", van -> van.go(0), UNKNOWN);
        refused(FRESH, "stand(0)", van -> van.stand(0), UNKNOWN);
        refused(FRESH, "call(0, 0, 0, 0)", van -> van.call(0, 0, 0, 0), UNKNOWN);
        refused(FRESH, "odds(0, 1, 0)", van -> van.odds(0, 1, 0), UNKNOWN);
        refused(FRESH, "see(0, true)", van -> van.see(0, true), UNKNOWN);
        refused(FRESH, "restore()", ChimeVan::restore, STATE);
    }

    /** Promise 2: "OUTSIDE: code (1 to 126)"; it is told ahead of FULL. */
    private static void letterCodes() {
        for (Place place : ALL) {
            for (int code : beyond(1, 126)) {
                refused(place, "letter(" + code + ")", van -> van.letter(code), OUTSIDE);
            }
        }
        for (int code = 1; code <= 126; code++) {
            ChimeVan van = new ChimeVan();
            CHECK.due("letter(" + code + ")", van.letter(code), 1);
            CHECK.due("its digest", van.digest(), Digests.byCalls(van, "" + (char) code));
        }
    }

    /** Promise 2: "FULL: above 60". */
    private static void letterFull() {
        ChimeVan van = new ChimeVan();
        for (int number = 1; number <= 60; number++) {
            CHECK.due("letter " + number, van.letter(number % 2 == 0 ? 1 : 126), number);
        }
        for (Place place : new Place[] {TYPED_FULL, PAGE_FULL}) {
            CHECK.due("letters of the full page", at(place).count(9), 60);
            for (int code : new int[] {1, 2, '0', 125, 126}) {
                refused(place, "letter(" + code + ")", each -> each.letter(code), FULL);
            }
        }
    }

    /** Promise 3: "THE PAGE is empty: how many letters it had". */
    private static void blankOfEachPage() {
        int[] had = {0, 10, 60, 0, 0, 15, 60, 15, 15, 0};
        for (int nth = 0; nth < ALL.length; nth++) {
            ChimeVan van = at(ALL[nth]);
            int suburbs = van.count(10);
            CHECK.due(ALL[nth].name() + ": blank()", van.blank(), had[nth]);
            CHECK.due("the page then", van.count(9), 0);
            CHECK.due("its faults", van.fault(), 0);
            CHECK.due("blank() again", van.blank(), 0);
            CHECK.due("the people stay", van.count(2), ALL[nth].people());
            CHECK.due("the suburb stays", van.count(10), suburbs);
            CHECK.due("a letter then", van.letter('2'), 1);
        }
    }

    /** Promise 4: "how many letters it has, if there is none"; the page of 60 has one at the 16th, or the second. */
    private static void faultOfEachPage() {
        int[] due = {0, 10, 1, 0, 0, 15, 15, 15, 15, 0};
        for (int nth = 0; nth < ALL.length; nth++) {
            refused(ALL[nth], "fault()", ChimeVan::fault, due[nth]);
        }
    }

    /** Promise 5: "STATE: it is none". */
    private static void suburbOfNone() {
        for (Place place : new Place[] {FRESH, TYPED, TYPED_FULL, SMALL, LARGE, PAGE_FULL, MOVED}) {
            refused(place, "suburb()", ChimeVan::suburb, STATE);
        }
    }

    /** Promise 5: "(another one is gone, with all that was)"; "THE PAGE is empty then". */
    private static void suburbInsteadOfAnother() {
        for (Place place : new Place[] {LIVED, SEEN_FULL, ROUNDS_FULL}) {
            ChimeVan van = at(place);
            int rounds = van.count(11);
            ChimeVan other = at(SMALL);
            CHECK.due("suburb()", van.suburb(), 2);
            for (int what = 0; what < 10; what++) {
                CHECK.due("count(" + what + ") in another suburb", van.count(what), other.count(what));
            }
            CHECK.due("suburbs", van.count(10), 2);
            CHECK.due("rounds", van.count(11), rounds);
            likeNew(van, other);
            CHECK.due("restore()", van.restore(), STATE);
        }
    }

    private static void likeNew(ChimeVan van, ChimeVan other) {
        CHECK.due("places()", van.places(), other.places());
        CHECK.due("ask()", van.ask(), other.ask());
        for (int nth = 0; nth < 8; nth++) {
            for (int what = 0; what < 9; what++) {
                CHECK.due("person()", van.person(nth, what), other.person(nth, what));
                CHECK.due("road()", van.road(nth, what), other.road(nth, what));
                CHECK.due("corner()", van.corner(nth, what), other.corner(nth, what));
            }
            for (int hours = 1; hours <= 4; hours++) {
                CHECK.due("odds() above", van.odds(nth, hours, 0), other.odds(nth, hours, 0));
                CHECK.due("odds() below", van.odds(nth, hours, 1), other.odds(nth, hours, 1));
            }
        }
    }

    private static final Place[] NAMED = {FRESH, TYPED, SMALL, LIVED, MOVED};

    /** Promise 6: "UNKNOWN; OUTSIDE." */
    private static void personRefused() {
        for (Place place : NAMED) {
            for (int who : beyond(0, place.people() - 1)) {
                for (int what : new int[] {0, 8, 9, -1}) {
                    refused(place, "person(" + who + ", " + what + ")", van -> van.person(who, what), UNKNOWN);
                }
            }
            for (int nth = 0; nth < place.people(); nth++) {
                int who = nth;
                for (int what : beyond(0, 8)) {
                    refused(place, "person(" + who + ", " + what + ")", van -> van.person(who, what), OUTSIDE);
                }
            }
        }
    }

    /** Promise 7: "UNKNOWN; OUTSIDE." */
    private static void asRefused() {
        for (Place place : NAMED) {
            for (int who : beyond(0, place.people() - 1)) {
                for (int kind : new int[] {0, 4, 5, -1}) {
                    refused(place, "as(" + who + ", " + kind + ")", van -> van.as(who, kind), UNKNOWN);
                }
            }
            for (int nth = 0; nth < place.people(); nth++) {
                int who = nth;
                for (int kind : beyond(0, 4)) {
                    refused(place, "as(" + who + ", " + kind + ")", van -> van.as(who, kind), OUTSIDE);
                }
                refused(place, "as(" + who + ", 0)", van -> van.as(who, 0), who);
            }
        }
    }

    /** Promise 8: "UNKNOWN; OUTSIDE." */
    private static void roadRefused() {
        for (Place place : NAMED) {
            for (int road : beyond(0, place.roads() - 1)) {
                for (int what : new int[] {0, 1, 2, -1}) {
                    refused(place, "road(" + road + ", " + what + ")", van -> van.road(road, what), UNKNOWN);
                }
            }
            for (int nth = 0; nth < place.roads(); nth++) {
                int road = nth;
                for (int what : beyond(0, 1)) {
                    refused(place, "road(" + road + ", " + what + ")", van -> van.road(road, what), OUTSIDE);
                }
            }
        }
        int[][] ends = {{0, 1}, {1, 2}, {2, 3}, {3, 4}, {4, 5}, {5, 0}, {0, 2}, {1, 3}};
        for (int road = 0; road < 8; road++) {
            CHECK.due("the first end of " + road, at(LARGE).road(road, 0), ends[road][0]);
            CHECK.due("the second end of " + road, at(LARGE).road(road, 1), ends[road][1]);
        }
    }

    /** Promise 9: "UNKNOWN; OUTSIDE." */
    private static void cornerRefused() {
        for (Place place : NAMED) {
            for (int corner : beyond(0, place.corners() - 1)) {
                for (int what : new int[] {0, 3, 4, -1}) {
                    refused(place, "corner(" + corner + ", " + what + ")", van -> van.corner(corner, what), UNKNOWN);
                }
            }
            for (int nth = 0; nth < place.corners(); nth++) {
                int corner = nth;
                for (int what : beyond(0, 3)) {
                    refused(place, "corner(" + corner + ", " + what + ")", van -> van.corner(corner, what), OUTSIDE);
                }
            }
        }
    }

    /** Promise 10: "UNKNOWN: from, to." */
    private static void farRefused() {
        for (Place place : NAMED) {
            for (int wrong : beyond(0, place.corners() - 1)) {
                for (int other : new int[] {0, place.corners() - 1, place.corners(), -1, wrong}) {
                    refused(place, "far(" + wrong + ", " + other + ")", van -> van.far(wrong, other), UNKNOWN);
                    refused(place, "far(" + other + ", " + wrong + ")", van -> van.far(other, wrong), UNKNOWN);
                }
            }
        }
    }

    /** Promise 11: "UNKNOWN: corner; STATE: no ROAD leads there straight". */
    private static void goRefused() {
        for (Place place : NAMED) {
            for (int corner : beyond(0, place.corners() - 1)) {
                refused(place, "go(" + corner + ")", van -> van.go(corner), UNKNOWN);
            }
        }
        for (int corner : new int[] {1, 2, 3}) {
            refused(LIVED, "go(" + corner + ") from 5", van -> van.go(corner), STATE);
        }
        for (int corner : new int[] {0, 4, 5}) {
            ChimeVan van = at(LIVED);
            CHECK.due("where the van is", van.count(3), 5);
            CHECK.due("go(" + corner + ") from 5 serves", van.go(corner), corner == 0 ? 1 : 0);
            CHECK.due("the van then", van.count(3), corner);
            CHECK.due("the hour then", van.count(4), 6);
        }
    }

    /** Promise 11: "FULL: it would be HOUR 1000"; no object is promised for so many calls, but it stands so. */
    private static void goAtTheLastHour() {
        Place last = new Place("hour 999", BoundsOfCallsTest::toLastHour, 3, 2, 2);
        ChimeVan van = at(last);
        CHECK.due("the hour", van.count(4), 999);
        refused(last, "go(0), it stays", each -> each.go(0), FULL);
        refused(last, "go(1), along a road", each -> each.go(1), FULL);
        refused(last, "go(2), without a road there", each -> each.go(2), STATE);
        refused(last, "go(3), unknown", each -> each.go(3), UNKNOWN);
        refused(last, "go(-1), unknown", each -> each.go(-1), UNKNOWN);
        CHECK.due("restore() of hour 998", van.restore(), 998);
        CHECK.due("go(0) to hour 999", van.go(0), 0);
        CHECK.due("go(0) to hour 1000", van.go(0), FULL);
    }

    private static void toLastHour(ChimeVan van) {
        Check.type(van, "30;01,12;p290,d290");
        van.suburb();
        for (int hour = 1; hour <= 998; hour++) {
            van.go(0);
        }
        van.image();
        van.go(0);
    }

    /** Promise 12: "The VAN is at a CORNER, without an HOUR: at which it was. UNKNOWN." */
    private static void standAnywhere() {
        for (Place place : NAMED) {
            for (int corner : beyond(0, place.corners() - 1)) {
                refused(place, "stand(" + corner + ")", van -> van.stand(corner), UNKNOWN);
            }
        }
        refused(LIVED, "stand(5) where it is", van -> van.stand(5), 5);
        for (int corner = 0; corner < 6; corner++) {
            ChimeVan van = at(LIVED);
            CHECK.due("stand(" + corner + ")", van.stand(corner), 5);
            CHECK.due("where it is", van.count(3), corner);
            CHECK.due("the hour", van.count(4), 5);
            CHECK.due("who are served", van.count(5), 1);
            CHECK.due("what all count", van.count(6), at(LIVED).count(6));
            CHECK.due("where it was", van.stand(0), corner);
        }
    }

    /** Promise 13: "UNKNOWN; OUTSIDE: kind (0 to 4), hour, ears (0 to 9)". */
    private static void callRefused() {
        for (Place place : NAMED) {
            for (int who : beyond(0, place.people() - 1)) {
                refused(place, "call(" + who + ", 0, 0, 0)", van -> van.call(who, 0, 0, 0), UNKNOWN);
                refused(place, "call(" + who + ", 4, 9, 9)", van -> van.call(who, 4, 9, 9), UNKNOWN);
                refused(place, "call(" + who + ", 5, 10, 10)", van -> van.call(who, 5, 10, 10), UNKNOWN);
                refused(place, "call(" + who + ", -1, -1, -1)", van -> van.call(who, -1, -1, -1), UNKNOWN);
            }
            for (int nth = 0; nth < place.people(); nth++) {
                callOutside(place, nth);
            }
        }
    }

    private static void callOutside(Place place, int who) {
        for (int kind : beyond(0, 4)) {
            refused(place, "call(" + who + ", " + kind + ", 0, 0)", van -> van.call(who, kind, 0, 0), OUTSIDE);
            refused(place, "call(" + who + ", " + kind + ", 9, 9)", van -> van.call(who, kind, 9, 9), OUTSIDE);
        }
        for (int wrong : beyond(0, 9)) {
            refused(place, "call(" + who + ", 0, " + wrong + ", 0)", van -> van.call(who, 0, wrong, 0), OUTSIDE);
            refused(place, "call(" + who + ", 4, " + wrong + ", 9)", van -> van.call(who, 4, wrong, 9), OUTSIDE);
            refused(place, "call(" + who + ", 0, 0, " + wrong + ")", van -> van.call(who, 0, 0, wrong), OUTSIDE);
            refused(place, "call(" + who + ", 4, 9, " + wrong + ")", van -> van.call(who, 4, 9, wrong), OUTSIDE);
        }
    }

    /** Promise 13: "(what he COUNTS is 0, he is not SERVED): of which KIND he was". */
    private static void callAtItsBounds() {
        int[] kinds = {0, 1, 2, 3, 4, 4};
        for (int who = 0; who < 6; who++) {
            for (int kind = 0; kind < 5; kind++) {
                called(who, kinds[who], kind, 0, 9);
                called(who, kinds[who], kind, 9, 0);
            }
        }
        ChimeVan van = at(SMALL);
        van.stand(0);
        CHECK.due("he is served", van.go(0), 1);
        CHECK.due("he is called as he is", van.call(0, 0, 0, 0), 0);
        CHECK.due("he can be served again", van.go(0), 1);
    }

    private static void called(int who, int was, int kind, int hour, int ears) {
        ChimeVan van = at(LIVED);
        int others = van.count(6) - van.person(who, 5);
        int served = van.count(5) - van.person(who, 4);
        int corner = van.person(who, 1);
        CHECK.due("call() of " + who, van.call(who, kind, hour, ears), was);
        int[] due = {kind, corner, hour, ears, 0, 0};
        for (int what = 0; what < due.length; what++) {
            CHECK.due("person(" + who + ", " + what + ") then", van.person(who, what), due[what]);
        }
        CHECK.due("what all others count", van.count(6), others);
        CHECK.due("who else is served", van.count(5), served);
        CHECK.due("the hour stays", van.count(4), 5);
    }

    /** Promise 14: "OUTSIDE: hours (1 to 5), what; STATE: no SUBURB, or round() was done 20 times ever". */
    private static void roundRefused() {
        for (Place place : new Place[] {FRESH, TYPED, SMALL, LIVED, ROUNDS_FULL, MOVED}) {
            for (int hours : beyond(1, 5)) {
                for (int what : new int[] {0, 1, 10, 14, 2}) {
                    refused(place, "round(" + hours + ", " + what + ")", van -> van.round(hours, what), OUTSIDE);
                }
            }
            for (int what : new int[] {2, 3, 8, 9, 15, 16, -1, -2, -10, 32, 42, 256, Integer.MIN_VALUE,
                Integer.MAX_VALUE}) {
                refused(place, "round(1, " + what + ")", van -> van.round(1, what), OUTSIDE);
                refused(place, "round(5, " + what + ")", van -> van.round(5, what), OUTSIDE);
            }
        }
        for (Place place : new Place[] {FRESH, TYPED, TYPED_FULL, ROUNDS_FULL}) {
            for (int what : new int[] {0, 1, 10, 14}) {
                refused(place, "round(1, " + what + ")", van -> van.round(1, what), STATE);
                refused(place, "round(5, " + what + ")", van -> van.round(5, what), STATE);
            }
        }
    }

    /** Promise 14: "20 times ever (a new SUBURB, restore() leave that; refusals do not count, all else does)". */
    private static void roundTwentyTimes() {
        ChimeVan van = new ChimeVan();
        CHECK.due("no suburb", van.round(1, 0), STATE);
        CHECK.due("it does not count", van.count(11), 0);
        Ways.small(van);
        van.image();
        int[] whats = {0, 1, 10, 11, 14};
        for (int number = 1; number <= 20; number++) {
            CHECK.due("refused ahead of " + number, van.round(0, 0), OUTSIDE);
            int what = whats[number % 5];
            CHECK.due("round " + number, van.round(1, what), what > 10 ? NONE : what == 0 ? 1 : 0);
            CHECK.due("how often", van.count(11), number);
            if (number % 7 == 0) {
                Ways.small(van);
                van.image();
            }
            CHECK.due("restore()", van.restore(), 0);
            CHECK.due("how often then", van.count(11), number);
        }
        CHECK.due("round 21", van.round(1, 0), STATE);
        CHECK.due("restore()", van.restore(), 0);
        CHECK.due("round 21 behind restore()", van.round(1, 0), STATE);
        Ways.small(van);
        CHECK.due("round 21 in a new suburb", van.round(1, 0), STATE);
        CHECK.due("how often it was done", van.count(11), 20);
    }

    /** Promise 15: "UNKNOWN: person; OUTSIDE: hours (1 to 4), what". */
    private static void oddsRefused() {
        for (Place place : NAMED) {
            for (int who : beyond(0, place.people() - 1)) {
                refused(place, "odds(" + who + ", 1, 0)", van -> van.odds(who, 1, 0), UNKNOWN);
                refused(place, "odds(" + who + ", 4, 1)", van -> van.odds(who, 4, 1), UNKNOWN);
                refused(place, "odds(" + who + ", 0, 2)", van -> van.odds(who, 0, 2), UNKNOWN);
                refused(place, "odds(" + who + ", 5, -1)", van -> van.odds(who, 5, -1), UNKNOWN);
            }
            for (int nth = 0; nth < place.people(); nth++) {
                oddsOutside(place, nth);
            }
        }
    }

    private static void oddsOutside(Place place, int who) {
        for (int hours : beyond(1, 4)) {
            refused(place, "odds(" + who + ", " + hours + ", 0)", van -> van.odds(who, hours, 0), OUTSIDE);
            refused(place, "odds(" + who + ", " + hours + ", 1)", van -> van.odds(who, hours, 1), OUTSIDE);
        }
        for (int what : beyond(0, 1)) {
            refused(place, "odds(" + who + ", 1, " + what + ")", van -> van.odds(who, 1, what), OUTSIDE);
            refused(place, "odds(" + who + ", 4, " + what + ")", van -> van.odds(who, 4, what), OUTSIDE);
        }
    }

    /** Promise 16: "UNKNOWN: person; FULL." */
    private static void seeRefused() {
        for (Place place : new Place[] {FRESH, TYPED, SMALL, LIVED, MOVED, SEEN_FULL}) {
            for (int who : beyond(0, place.people() - 1)) {
                refused(place, "see(" + who + ", true)", van -> van.see(who, true), UNKNOWN);
                refused(place, "see(" + who + ", false)", van -> van.see(who, false), UNKNOWN);
            }
        }
        for (int nth = 0; nth < 6; nth++) {
            int who = nth;
            refused(SEEN_FULL, "see(" + who + ", true)", van -> van.see(who, true), FULL);
            refused(SEEN_FULL, "see(" + who + ", false)", van -> van.see(who, false), FULL);
            CHECK.due("see(" + who + ", true)", at(LIVED).see(who, true), 4);
        }
    }

    /** Promise 17: "Nothing is SEEN any more: how much was". */
    private static void forgetNothing() {
        for (Place place : new Place[] {FRESH, TYPED, TYPED_FULL, SMALL, LARGE}) {
            refused(place, "forget() of nothing", ChimeVan::forget, 0);
        }
        int[] seen = {1, 3, 6};
        Place[] places = {MOVED, LIVED, SEEN_FULL};
        for (int nth = 0; nth < seen.length; nth++) {
            ChimeVan van = at(places[nth]);
            CHECK.due(places[nth].name() + ": forget()", van.forget(), seen[nth]);
            CHECK.due("how much is seen", van.count(8), 0);
            CHECK.due("all places", van.places(), (1 << places[nth].corners()) - 1);
            CHECK.due("forget() again", van.forget(), 0);
        }
    }

    /** Promises 18 and 19: "STATE: no SUBURB." */
    private static void placesAndAskWithoutSuburb() {
        for (Place place : NOWHERE) {
            refused(place, "places()", ChimeVan::places, STATE);
            refused(place, "ask()", ChimeVan::ask, STATE);
        }
        refused(SMALL, "places()", ChimeVan::places, 3);
        refused(SMALL, "ask()", ChimeVan::ask, 0);
    }

    /** Promise 20: "OUTSIDE: hours (1 to 60), seed (0 at least), what; STATE: no SUBURB." */
    private static void eveningsRefused() {
        for (Place place : new Place[] {FRESH, TYPED, SMALL, LIVED, MOVED}) {
            for (int hours : beyond(1, 60)) {
                refused(place, "evenings(" + hours + ", 0, 0)", van -> van.evenings(hours, 0, 0), OUTSIDE);
                refused(place, "evenings(" + hours + ", 0, 2)", van -> van.evenings(hours, 0, 2), OUTSIDE);
            }
            for (int seed : new int[] {-1, -2, -65536, Integer.MIN_VALUE, Integer.MIN_VALUE + 1}) {
                refused(place, "evenings(1, " + seed + ", 0)", van -> van.evenings(1, seed, 0), OUTSIDE);
                refused(place, "evenings(60, " + seed + ", 2)", van -> van.evenings(60, seed, 2), OUTSIDE);
            }
            for (int what : beyond(0, 2)) {
                refused(place, "evenings(1, 0, " + what + ")", van -> van.evenings(1, 0, what), OUTSIDE);
                refused(place, "evenings(60, 0, " + what + ")", van -> van.evenings(60, 0, what), OUTSIDE);
            }
        }
        for (Place place : NOWHERE) {
            for (int each = 0; each < 3; each++) {
                int what = each;
                refused(place, "evenings(1, 0, " + what + ")", van -> van.evenings(1, 0, what), STATE);
                refused(place, "evenings(60, most, " + what + ")",
                        van -> van.evenings(60, Integer.MAX_VALUE, what), STATE);
            }
        }
    }

    /** Promise 21: "STATE: no SUBURB"; a refused one keeps none, too. */
    private static void imageWithoutSuburb() {
        for (Place place : NOWHERE) {
            refused(place, "image()", ChimeVan::image, STATE);
        }
        ChimeVan van = new ChimeVan();
        van.image();
        Ways.small(van);
        CHECK.due("restore() of what was refused", van.restore(), STATE);
    }

    /** Promise 23: "OUTSIDE." */
    private static void countRefused() {
        for (Place place : ALL) {
            for (int what : beyond(0, 11)) {
                refused(place, "count(" + what + ")", van -> van.count(what), OUTSIDE);
            }
        }
    }

    /** Promise 24, wherever one is; with the largest suburb the sum has long wrapped. */
    private static void digestOfEachPlace() {
        String full = Ways.SMALL + "0".repeat(45);
        String[] pages = {"", Ways.SMALL.substring(0, 10), "2".repeat(60), "", "", Ways.SMALL, full, Ways.SMALL,
            Ways.SMALL, ""};
        for (int nth = 0; nth < ALL.length; nth++) {
            ChimeVan van = at(ALL[nth]);
            CHECK.due(ALL[nth].name() + ": digest()", van.digest(), Digests.byCalls(van, pages[nth]));
        }
    }

    private static void tellingChangesNothing() {
        for (Place place : ALL) {
            for (int each = 0; each < 12; each++) {
                int what = each;
                telling(place, "count", van -> van.count(what));
                telling(place, "person", van -> van.person(0, what) + van.person(5, what));
                telling(place, "as", van -> van.as(0, what) + van.as(4, what));
                telling(place, "road", van -> van.road(what, 0) + van.road(0, 1));
                telling(place, "corner", van -> van.corner(0, what) + van.corner(5, what));
                telling(place, "far", van -> van.far(0, what) + van.far(what, 1));
                telling(place, "odds", van -> van.odds(0, what, 0) + van.odds(1, what, 1));
                telling(place, "evenings", van -> van.evenings(what * 5, what, what % 3));
            }
            telling(place, "fault", ChimeVan::fault);
            telling(place, "places", ChimeVan::places);
            telling(place, "ask", ChimeVan::ask);
            telling(place, "digest", ChimeVan::digest);
        }
        for (int hours = 1; hours <= 5; hours++) {
            roundChangesButItsNumber(hours);
        }
    }

    private static void telling(Place place, String name, ToLongFunction<ChimeVan> call) {
        TWINS.unchanged(place.name() + ": " + name, place.way(), call);
    }

    /** Of twins both do a round, one of an hour and one of more: they are alike behind it. */
    private static void roundChangesButItsNumber(int hours) {
        ChimeVan one = at(LIVED);
        ChimeVan other = at(LIVED);
        ChimeVan third = at(LIVED);
        one.round(hours, 0);
        other.round(1, 14);
        CHECK.due("digests behind rounds", one.digest(), other.digest());
        CHECK.due("it was done once more", one.count(11), third.count(11) + 1);
        for (int what = 0; what < 11; what++) {
            CHECK.due("count(" + what + ") behind a round", one.count(what), third.count(what));
        }
        CHECK.due("restore() behind a round", one.restore(), third.restore());
        CHECK.due("places() then", one.places(), third.places());
    }
}
