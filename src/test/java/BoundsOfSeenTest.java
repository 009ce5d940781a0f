/** "Terms", 3: what is seen, the places it leaves, whom to ask, what an image keeps; each at its bounds. */
public final class BoundsOfSeenTest {
    private static final Check CHECK = new Check("BoundsOfSeenTest");
    private static final Twins TWINS = new Twins(CHECK);

    public static void main(String[] args) {
        sixAtMost();
        sixAgain();
        likeOnesSeen();
        placesByNothing();
        placesAtTheBoundOfEars();
        placesWhenAsked();
        placesOfNone();
        placesWhereverTheVanIs();
        askForFewestAtWorst();
        askTheLeastOfLikeOnes();
        askNobody();
        imageKeeps();
        imageLeaves();
        imageIsTheLatest();
        imageStaysAsItWas();
        imageOfAnotherSuburb();
        CHECK.end();
    }

    /** "SEEN (6 at most)". */
    private static void sixAtMost() {
        ChimeVan van = new ChimeVan();
        Ways.large(van);
        for (int number = 1; number <= 6; number++) {
            CHECK.due("how much is seen before", van.count(8), number - 1);
            CHECK.due("see " + number, van.see(number - 1, number % 2 == 0), number);
        }
        for (int who = 0; who < 6; who++) {
            CHECK.due("one beyond", van.see(who, true), ChimeVan.FULL);
            CHECK.due("one beyond", van.see(who, false), ChimeVan.FULL);
        }
        CHECK.due("how much is seen", van.count(8), 6);
        TWINS.unchanged("see(0, true) beyond", Ways::seenFull, each -> each.see(0, true), ChimeVan.FULL);
        TWINS.unchanged("see(5, false) beyond", Ways::seenFull, each -> each.see(5, false), ChimeVan.FULL);
    }

    private static void sixAgain() {
        ChimeVan van = new ChimeVan();
        Ways.large(van);
        CHECK.due("forget() of nothing", van.forget(), 0);
        for (int number = 1; number <= 6; number++) {
            van.see(0, true);
        }
        CHECK.due("forget() of all", van.forget(), 6);
        CHECK.due("forget() of nothing again", van.forget(), 0);
        CHECK.due("all places again", van.places(), 63);
        for (int number = 1; number <= 6; number++) {
            CHECK.due("see " + number + " again", van.see(1, false), number);
        }
        CHECK.due("one beyond", van.see(1, false), ChimeVan.FULL);
    }

    private static void likeOnesSeen() {
        ChimeVan van = Check.of("20;01;p000,p100");
        CHECK.due("seen once", van.see(0, true), 1);
        CHECK.due("seen twice", van.see(0, true), 2);
        CHECK.due("places", van.places(), 1);
        CHECK.due("forget()", van.forget(), 2);
    }

    private static void placesByNothing() {
        for (int corners = 2; corners <= 6; corners++) {
            ChimeVan van = Check.of(corners + "0;01;p000,p000");
            CHECK.due("all places of " + corners, van.places(), (1 << corners) - 1);
        }
    }

    private static void placesAtTheBoundOfEars() {
        for (int ears = 0; ears <= 9; ears++) {
            ChimeVan van = Check.of("60;01,12,23,34;p00" + ears + ",p000");
            int near = (1 << Math.min(ears + 1, 5)) - 1;
            van.see(0, true);
            CHECK.due(ears + " ears hear it", van.places(), near);
            van.forget();
            van.see(0, false);
            CHECK.due(ears + " ears do not", van.places(), 63 - near);
        }
    }

    /** "(by CORNERS and EARS as they are when it is asked)". */
    private static void placesWhenAsked() {
        ChimeVan van = Check.of("40;01,12,23;p000,p301");
        van.see(0, true);
        CHECK.due("places", van.places(), 1);
        van.call(0, 3, 5, 2);
        CHECK.due("places by other ears", van.places(), 7);
        van.see(1, false);
        CHECK.due("places by two", van.places(), 3);
        van.call(1, 1, 1, 9);
        CHECK.due("no places by other ears", van.places(), 0);
        van.call(1, 1, 1, 0);
        CHECK.due("places again", van.places(), 7);
    }

    private static void placesOfNone() {
        ChimeVan van = Check.of("30;01,12;p000,p200");
        van.see(0, true);
        CHECK.due("places", van.places(), 1);
        van.see(1, true);
        CHECK.due("no places", van.places(), 0);
        van = Check.of("30;01,12;p000,p209");
        van.see(1, false);
        CHECK.due("who hears all does not", van.places(), 0);
    }

    /** "of which it is not known where it is": the van's own corner does not tell. */
    private static void placesWhereverTheVanIs() {
        ChimeVan van = Check.of("30;01,12;p000,p200");
        van.see(0, true);
        for (int corner = 0; corner < 3; corner++) {
            van.stand(corner);
            CHECK.due("places, the van at " + corner, van.places(), 1);
            CHECK.due("ask(), the van at " + corner, van.ask(), 0);
        }
    }

    /** "whom to ask next, so that fewest of these are left at worst, by whether he HEARS it". */
    private static void askForFewestAtWorst() {
        CHECK.due("one of six, two of six, three of six",
                Check.of("60;01,12,23,34,45;p000,p001,p002").ask(), 2);
        CHECK.due("three of six, two of six, one of six",
                Check.of("60;01,12,23,34,45;p002,p001,p000").ask(), 0);
        CHECK.due("five of six, four of six", Check.of("60;01,12,23,34,45;p004,p003").ask(), 1);
        CHECK.due("all of six, five of six", Check.of("60;01,12,23,34,45;p005,p004").ask(), 1);
        ChimeVan van = Check.of("60;01,12,23,34,45;p002,p500,p001");
        van.see(0, true);
        CHECK.due("of three left he tells two from one", van.ask(), 2);
        van.see(0, false);
        CHECK.due("none left", van.ask(), ChimeVan.NONE);
    }

    /** "of like ones the least". */
    private static void askTheLeastOfLikeOnes() {
        CHECK.due("two of six or four of six", Check.of("60;01,12,23,34,45;p003,p001").ask(), 0);
        CHECK.due("two of six or four of six", Check.of("60;01,12,23,34,45;p000,p001,p003").ask(), 1);
        CHECK.due("all alike", Check.of("20;01;p000,p100,p000").ask(), 0);
        CHECK.due("nobody tells anything", Check.of("20;01;p009,p109").ask(), 0);
        ChimeVan van = Check.of("20;01;p000,p100");
        van.see(0, true);
        CHECK.due("one place is left, there is nothing to tell", van.ask(), 0);
    }

    /** "none, if there are none". */
    private static void askNobody() {
        ChimeVan van = Check.of("20;01;p000,p100");
        van.see(0, true);
        van.see(0, false);
        CHECK.due("no places", van.places(), 0);
        CHECK.due("ask()", van.ask(), ChimeVan.NONE);
        van.forget();
        CHECK.due("ask() then", van.ask(), 0);
    }

    private static ChimeVan kept() {
        ChimeVan van = Check.of("43;01,12,23;p300,t102,h211,c309");
        van.go(3);
        van.go(2);
        van.see(2, true);
        van.see(0, false);
        CHECK.due("image()", van.image(), 2);
        return van;
    }

    private static void isAsKept(ChimeVan van) {
        CHECK.due("the van's corner", van.count(3), 2);
        CHECK.due("the hour", van.count(4), 2);
        CHECK.due("who are served", van.count(5), 2);
        CHECK.due("what all count", van.count(6), 3);
        CHECK.due("what is seen", van.count(8), 2);
        CHECK.due("where it can be", van.places(), 6);
        CHECK.due("whom to ask", van.ask(), 0);
        int[][] people = {{0, 3, 0, 0, 1, 1, 1}, {1, 1, 0, 2, 0, 0, 2}, {3, 2, 1, 1, 0, 1, 2}, {2, 3, 0, 9, 1, 1, 1}};
        for (int who = 0; who < 4; who++) {
            for (int what = 0; what < 7; what++) {
                CHECK.due("person(" + who + ", " + what + ")", van.person(who, what), people[who][what]);
            }
        }
    }

    /** "keeps the VAN's CORNER, the HOUR, KINDS, HOURS, EARS of all, what each COUNTS, who is SERVED, SEEN". */
    private static void imageKeeps() {
        ChimeVan van = kept();
        isAsKept(van);
        for (int who = 0; who < 4; who++) {
            van.call(who, 4, 7, 5);
        }
        van.go(2);
        van.go(1);
        van.forget();
        van.see(1, false);
        van.see(3, true);
        van.see(1, true);
        van.stand(0);
        CHECK.due("restore()", van.restore(), 2);
        isAsKept(van);
        CHECK.due("it goes on from there", van.go(2), 1);
        CHECK.due("the hour then", van.count(4), 3);
    }

    /** What it does not keep goes on: the page, how often a suburb was read, how often round() was done. */
    private static void imageLeaves() {
        ChimeVan van = kept();
        van.round(1, 0);
        Check.type(van, "20;");
        CHECK.due("restore()", van.restore(), 2);
        CHECK.due("the page", van.count(9), 3);
        CHECK.due("its faults", van.fault(), 3);
        CHECK.due("rounds", van.count(11), 1);
        CHECK.due("suburbs", van.count(10), 1);
        van.blank();
        CHECK.due("restore() again", van.restore(), 2);
        CHECK.due("the page stays empty", van.count(9), 0);
        isAsKept(van);
    }

    /** "An IMAGE is kept (one; the latest)". */
    private static void imageIsTheLatest() {
        ChimeVan van = kept();
        van.go(1);
        CHECK.due("image() again", van.image(), 3);
        van.go(0);
        CHECK.due("restore()", van.restore(), 3);
        CHECK.due("the corner", van.count(3), 1);
        CHECK.due("restore() once more: there is no other", van.restore(), 3);
    }

    private static void imageStaysAsItWas() {
        ChimeVan van = kept();
        for (int time = 0; time < 3; time++) {
            van.call(0, 4, 9, 9);
            van.go(2);
            van.see(0, true);
            van.forget();
            van.see(2, false);
            van.stand(3);
            CHECK.due("restore()", van.restore(), 2);
            isAsKept(van);
        }
        TWINS.unchanged("restore() right behind image()", each -> {
            Ways.lived(each);
            each.image();
        }, ChimeVan::restore, 5);
        TWINS.unchanged("image() again", each -> {
            Ways.lived(each);
            each.image();
        }, ChimeVan::image, 5);
    }

    /** "or there is another SUBURB since": the same text read again is another one, too. */
    private static void imageOfAnotherSuburb() {
        String text = "20;01;p000,p100";
        ChimeVan van = Check.of(text);
        van.image();
        Check.type(van, text);
        CHECK.due("suburb()", van.suburb(), 2);
        CHECK.due("restore()", van.restore(), ChimeVan.STATE);
        CHECK.due("image()", van.image(), 0);
        CHECK.due("restore() of its own", van.restore(), 0);
        Check.type(van, text + "x");
        CHECK.due("suburb() of none", van.suburb(), ChimeVan.STATE);
        CHECK.due("restore() behind it", van.restore(), 0);
        TWINS.unchanged("restore() of another suburb's", Ways::moved, ChimeVan::restore, ChimeVan.STATE);
        TWINS.unchanged("restore() of none", Ways::large, ChimeVan::restore, ChimeVan.STATE);
        TWINS.unchanged("restore() without a suburb", Ways::typed, ChimeVan::restore, ChimeVan.STATE);
    }
}
