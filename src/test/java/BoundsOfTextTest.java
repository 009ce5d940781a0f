/** "What it is", 1: each bound of a suburb's text, at it and one beyond it on each side; with promises 2 to 5. */
public final class BoundsOfTextTest {
    private static final Check CHECK = new Check("BoundsOfTextTest");
    private static final Twins TWINS = new Twins(CHECK);
    private static final String PEOPLE = ";p000,t000";

    public static void main(String[] args) {
        everyLetterAtEveryPlace();
        howManyCorners();
        whereTheVanIs();
        howManyRoads();
        endsOfRoads();
        howManyPeople();
        kindsOfPeople();
        cornersOfPeople();
        hoursAndEars();
        whatStandsBetween();
        theLongestSuburb();
        CHECK.end();
    }

    private static void isOf(String text, int people) {
        ChimeVan van = new ChimeVan();
        Check.type(van, text);
        CHECK.due("fault() of " + text, van.fault(), text.length());
        CHECK.due("suburb() of " + text, van.suburb(), people);
        CHECK.due("the page behind " + text, van.count(9), 0);
    }

    /** There is a letter that no suburb has there; what comes behind it does not matter. */
    private static void faultAt(String text, int place) {
        TWINS.unchanged("fault() of " + text, van -> Check.type(van, text), ChimeVan::fault, place);
        TWINS.unchanged("suburb() of " + text, van -> Check.type(van, text), ChimeVan::suburb, ChimeVan.STATE);
        String longer = text.substring(0, place + 1) + ";01;p";
        TWINS.unchanged("fault() of " + longer, van -> Check.type(van, longer), ChimeVan::fault, place);
    }

    /** No letter is wrong, but there are too few. */
    private static void tooShort(String text) {
        TWINS.unchanged("fault() of " + text, van -> Check.type(van, text), ChimeVan::fault, text.length());
        TWINS.unchanged("suburb() of " + text, van -> Check.type(van, text), ChimeVan::suburb, ChimeVan.STATE);
    }

    private static void everyLetterAtEveryPlace() {
        for (int corners = 2; corners <= 6; corners++) {
            String text = corners + "0;01,10,01,10,01,10,01,10;p000,t111,c022,h133,d044,p155";
            for (int place = 0; place < text.length() + 1; place++) {
                lettersAt(text.substring(0, Math.min(place, text.length())), place, rightOnes(corners, text, place));
            }
        }
    }

    private static void lettersAt(String ahead, int place, String right) {
        for (int code = 1; code <= 126; code++) {
            ChimeVan van = new ChimeVan();
            Check.type(van, ahead);
            van.letter(code);
            boolean isRight = right.indexOf(code) >= 0;
            CHECK.due("fault() of " + ahead + " and the letter " + code, van.fault(), isRight ? place + 1 : place);
        }
    }

    private static String rightOnes(int corners, String text, int place) {
        String there = "012345".substring(0, corners);
        if (place < 3) {
            return place == 0 ? "23456" : place == 1 ? there : ";";
        }
        if (place < 27) {
            switch ((place - 3) % 3) {
                case 0: return there;
                case 1: return there.replace(text.substring(place - 1, place), "");
                default: return place == 26 ? ";" : ",;";
            }
        }
        switch ((place - 27) % 5) {
            case 0: return "ptchd";
            case 1: return there;
            case 4: return place == 56 ? "" : ",";
            default: return "0123456789";
        }
    }

    /** "how many CORNERS (2 to 6, numbered from 0)". */
    private static void howManyCorners() {
        for (int corners = 2; corners <= 6; corners++) {
            isOf(corners + "0;01" + PEOPLE, 2);
            ChimeVan van = Check.of(corners + "0;01" + PEOPLE);
            CHECK.due("count(0)", van.count(0), corners);
            CHECK.due("the first corner", van.corner(0, 1), 3);
            CHECK.due("the last corner", van.corner(corners - 1, 1), 0);
            CHECK.due("none beyond", van.corner(corners, 1), ChimeVan.UNKNOWN);
        }
        for (String digit : new String[] {"0", "1", "7", "8", "9", "/", ":", "V"}) {
            faultAt(digit + "0;01" + PEOPLE, 0);
        }
    }

    /** "and at which the VAN is". */
    private static void whereTheVanIs() {
        for (int corners = 2; corners <= 6; corners++) {
            for (int van = 0; van < corners; van++) {
                isOf("" + corners + van + ";01" + PEOPLE, 2);
                CHECK.due("count(3)", Check.of("" + corners + van + ";01" + PEOPLE).count(3), van);
            }
            faultAt("" + corners + corners + ";01" + PEOPLE, 1);
            faultAt(corners + "/;01" + PEOPLE, 1);
        }
    }

    private static String roads(int number) {
        StringBuilder text = new StringBuilder("20;");
        for (int nth = 0; nth < number; nth++) {
            text.append(nth == 0 ? "" : ",").append("01");
        }
        return text.toString();
    }

    /** "one to eight ROADS (numbered from 0) with ',' between"; like ones are not ruled out. */
    private static void howManyRoads() {
        faultAt(roads(0) + PEOPLE, 3);
        for (int number = 1; number <= 8; number++) {
            isOf(roads(number) + PEOPLE, 2);
            ChimeVan van = Check.of(roads(number) + PEOPLE);
            CHECK.due("count(1)", van.count(1), number);
            CHECK.due("the first road", van.road(0, 1), 1);
            CHECK.due("the last road", van.road(number - 1, 1), 1);
            CHECK.due("none beyond", van.road(number, 1), ChimeVan.UNKNOWN);
        }
        faultAt(roads(9) + PEOPLE, 26);
    }

    /** "each two digits, the CORNERS at its ends (unlike ones that there are)". */
    private static void endsOfRoads() {
        for (int corners = 2; corners <= 6; corners++) {
            for (int one = 0; one <= corners; one++) {
                for (int other = 0; other <= corners; other++) {
                    road(corners, one, other);
                }
            }
            faultAt(corners + "0;/1" + PEOPLE, 3);
            faultAt(corners + "0;1/" + PEOPLE, 4);
        }
    }

    private static void road(int corners, int one, int other) {
        for (String ahead : new String[] {"0;", "0;01,10,01,10,01,10,01,"}) {
            String head = corners + ahead;
            String text = head + one + other + PEOPLE;
            if (one == corners) {
                faultAt(text, head.length());
            } else if (other == corners || one == other) {
                faultAt(text, head.length() + 1);
            } else {
                isOf(text, 2);
            }
        }
    }

    private static String people(int number) {
        StringBuilder text = new StringBuilder("20;01;");
        for (int nth = 0; nth < number; nth++) {
            text.append(nth == 0 ? "" : ",").append("p000");
        }
        return text.toString();
    }

    /** "two to six PEOPLE (numbered from 0) with ',' between". */
    private static void howManyPeople() {
        tooShort(people(0));
        tooShort(people(1));
        tooShort(people(1) + ",");
        for (int number = 2; number <= 6; number++) {
            isOf(people(number), number);
            ChimeVan van = Check.of(people(number));
            CHECK.due("count(2)", van.count(2), number);
            CHECK.due("the first one", van.as(0, 0), 0);
            CHECK.due("the last one", van.as(number - 1, 0), number - 1);
            CHECK.due("none beyond", van.as(number, 0), ChimeVan.UNKNOWN);
        }
        for (int number = 2; number < 6; number++) {
            tooShort(people(number) + ",");
        }
        faultAt(people(6) + ",", people(6).length());
        faultAt(people(7), people(6).length());
    }

    /** "each a letter, the KIND". */
    private static void kindsOfPeople() {
        for (int kind = 0; kind < 5; kind++) {
            char letter = "ptchd".charAt(kind);
            String text = "20;01;p000," + letter + "000";
            isOf(text, 2);
            CHECK.due("the kind of " + letter, Check.of(text).person(1, 0), kind);
        }
        for (char letter : "PTCHDoqsubgie0,;".toCharArray()) {
            faultAt("20;01;" + letter + "000,p000", 6);
            faultAt("20;01;p000," + letter + "000", 11);
        }
    }

    /** "three digits: the CORNER". */
    private static void cornersOfPeople() {
        for (int corners = 2; corners <= 6; corners++) {
            String head = corners + "0;01;p000,t";
            for (int corner = 0; corner < corners; corner++) {
                isOf(head + corner + "00", 2);
                CHECK.due("the corner", Check.of(head + corner + "00").person(1, 1), corner);
            }
            faultAt(head + corners + "00", 12);
            faultAt(head + "/00", 12);
        }
    }

    /** "the HOUR from which on it is his time (0 to 9), his EARS (0 to 9)". */
    private static void hoursAndEars() {
        for (int digit = 0; digit <= 9; digit++) {
            ChimeVan van = Check.of("20;01;p000,p0" + digit + (9 - digit));
            CHECK.due("the hour", van.person(1, 2), digit);
            CHECK.due("the ears", van.person(1, 3), 9 - digit);
            isOf("20;01;p000,p0" + digit + (9 - digit), 2);
        }
        for (char beyond : "/:-a".toCharArray()) {
            faultAt("20;01;p000,p0" + beyond + "0", 13);
            faultAt("20;01;p000,p00" + beyond, 14);
        }
    }

    private static void whatStandsBetween() {
        for (char wrong : ",:0 ".toCharArray()) {
            faultAt("20" + wrong + "01;p000,p000", 2);
        }
        for (char wrong : ":.0 ".toCharArray()) {
            faultAt("20;01" + wrong + "p000,p000", 5);
        }
        faultAt("20;01,p000,p000", 6);
        for (char wrong : ";.0 ".toCharArray()) {
            faultAt("20;01;p000" + wrong + "p000", 10);
        }
        faultAt("20;01;p000,p000;", 15);
        faultAt("20;01;p000,p0000", 15);
        faultAt(" 20;01;p000,p000", 0);
    }

    /** The longest has 56 letters; the page has room for four more, and no suburb has any of these. */
    private static void theLongestSuburb() {
        CHECK.due("its letters", Ways.LARGE.length(), 56);
        isOf(Ways.LARGE, 6);
        for (int length = 0; length < Ways.LARGE.length(); length++) {
            String part = Ways.LARGE.substring(0, length);
            CHECK.due("suburb() of " + part, readOf(part), partOfPeople(length));
        }
        faultAt(Ways.LARGE + "0000", 56);
        faultAt(Ways.LARGE + ",", 56);
    }

    private static int readOf(String text) {
        ChimeVan van = new ChimeVan();
        Check.type(van, text);
        return van.suburb();
    }

    /** The people begin at 27 and take five letters each with what stands between: two are whole at 36. */
    private static int partOfPeople(int length) {
        boolean isWhole = length >= 36 && (length - 36) % 5 == 0;
        return isWhole ? 2 + (length - 36) / 5 : ChimeVan.STATE;
    }
}
