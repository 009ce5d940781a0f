import java.util.Arrays;

/** A suburb, its people, and the van that comes for them; the promises stand in the document. */
public final class ChimeVan {
    public static final int NONE = -1, UNKNOWN = -101, OUTSIDE = -102, STATE = -103, FULL = -104;

    private static final int MOST_CORNERS = 6, MOST_ROADS = 8, MOST_PEOPLE = 6, FEWEST_PEOPLE = 2;
    private static final int THINKER = 1, CHILD = 2, HEDGE = 3, DOCTOR = 4, KINDS = 5;
    private static final int MOST_LETTERS = 60, MOST_CODE = 126;
    private static final int MOST_DIGIT = 9, HOUR_LIMIT = 1000, MOST_AHEAD = 40;
    private static final int MOST_ROUND_HOURS = 5, MOST_ROUNDS = 20, ROUND_PLACES = 10;
    private static final int MOST_STRAY_HOURS = 4, MOST_EVENING_HOURS = 60, MOST_SEEN = 6;
    private static final int PERSON_FACTS = 9, ROAD_FACTS = 2, CORNER_FACTS = 4, COUNTS = 12;

    private final Page page;
    private final Town town;
    private final Folk folk, keptFolk;
    private final Evening evening, keptEvening, trial;
    private final Hearsay seen, keptSeen;
    private final RoundSearch search;
    private final Stray stray;
    private boolean isKept;
    private int suburbsRead, roundsDone;

    public ChimeVan() {
        page = new Page();
        town = new Town();
        folk = new Folk();
        keptFolk = new Folk();
        evening = new Evening();
        keptEvening = new Evening();
        trial = new Evening();
        seen = new Hearsay();
        keptSeen = new Hearsay();
        search = new RoundSearch();
        stray = new Stray();
    }

    // ---- the suburb

    public int letter(int code) {
        if (!isWithin(code, 1, MOST_CODE)) {
            return OUTSIDE;
        }
        if (page.size >= MOST_LETTERS) {
            return FULL;
        }
        page.codes[page.size] = code;
        page.size++;
        return page.size;
    }

    public int blank() {
        int had = page.size;
        page.size = 0;
        return had;
    }

    public int fault() {
        return page.firstFault();
    }

    public int suburb() {
        if (!page.isSuburb()) {
            return STATE;
        }
        town.build(page);
        folk.settle(page);
        evening.begin(page.digitAt(1));
        seen.size = 0;
        isKept = false;
        suburbsRead++;
        page.size = 0;
        return folk.size;
    }

    public int person(int person, int what) {
        if (!isPerson(person)) {
            return UNKNOWN;
        }
        if (!isWithin(what, 0, PERSON_FACTS - 1)) {
            return OUTSIDE;
        }
        switch (what) {
            case 0: return folk.kind[person];
            case 1: return folk.home[person];
            case 2: return folk.due[person];
            case 3: return folk.ears[person];
            case 4: return evening.isServed(person) ? 1 : 0;
            case 5: return evening.counts[person];
            case 6: return folk.needs(person);
            case 7: return hearsVan(person) ? 1 : 0;
            default: return soonest(person);
        }
    }

    public int as(int person, int kind) {
        if (!isPerson(person)) {
            return UNKNOWN;
        }
        if (!isWithin(kind, 0, KINDS - 1)) {
            return OUTSIDE;
        }
        return folk.isOfKind(person, kind) ? person : NONE;
    }

    public int road(int road, int what) {
        if (!isWithin(road, 0, town.roads - 1)) {
            return UNKNOWN;
        }
        if (!isWithin(what, 0, ROAD_FACTS - 1)) {
            return OUTSIDE;
        }
        return what == 0 ? town.firstEnd[road] : town.otherEnd[road];
    }

    public int corner(int corner, int what) {
        if (!isCorner(corner)) {
            return UNKNOWN;
        }
        if (!isWithin(what, 0, CORNER_FACTS - 1)) {
            return OUTSIDE;
        }
        switch (what) {
            case 0: return town.reach[corner] & ~(1 << corner);
            case 1: return folk.whoLivesAt(corner);
            case 2: return town.steps[corner][evening.van];
            default: return town.catchHours[evening.van][corner];
        }
    }

    public int far(int from, int to) {
        if (!isCorner(from) || !isCorner(to)) {
            return UNKNOWN;
        }
        return town.steps[from][to];
    }

    // ---- what is done

    public int go(int corner) {
        if (!isCorner(corner)) {
            return UNKNOWN;
        }
        if (!hasBit(town.reach[evening.van], corner)) {
            return STATE;
        }
        if (evening.hour + 1 >= HOUR_LIMIT) {
            return FULL;
        }
        return evening.pass(corner, folk);
    }

    public int stand(int corner) {
        if (!isCorner(corner)) {
            return UNKNOWN;
        }
        int was = evening.van;
        evening.van = corner;
        return was;
    }

    public int call(int person, int kind, int hour, int ears) {
        if (!isPerson(person)) {
            return UNKNOWN;
        }
        if (!isWithin(kind, 0, KINDS - 1) || !isWithin(hour, 0, MOST_DIGIT) || !isWithin(ears, 0, MOST_DIGIT)) {
            return OUTSIDE;
        }
        int was = folk.kind[person];
        folk.kind[person] = kind;
        folk.due[person] = hour;
        folk.ears[person] = ears;
        evening.forgo(person);
        return was;
    }

    // ---- what would be

    public int round(int hours, int what) {
        boolean isPlace = isWithin(what, ROUND_PLACES, ROUND_PLACES + MOST_ROUND_HOURS - 1);
        if (!isWithin(hours, 1, MOST_ROUND_HOURS) || !(isWithin(what, 0, 1) || isPlace)) {
            return OUTSIDE;
        }
        if (!hasSuburb() || roundsDone >= MOST_ROUNDS) {
            return STATE;
        }
        roundsDone++;
        search.run(town, folk, evening, hours);
        if (isPlace) {
            int nth = what - ROUND_PLACES;
            return nth < hours ? search.bestWay[nth] : NONE;
        }
        return what == 0 ? search.bestServed : search.bestCounted;
    }

    public int odds(int person, int hours, int what) {
        if (!isPerson(person)) {
            return UNKNOWN;
        }
        if (!isWithin(hours, 1, MOST_STRAY_HOURS) || !isWithin(what, 0, 1)) {
            return OUTSIDE;
        }
        stray.run(town, evening.van, hours);
        return what == 0 ? stray.above(folk.home[person]) : stray.below(folk.home[person]);
    }

    // ---- what is seen

    public int see(int person, boolean hears) {
        if (!isPerson(person)) {
            return UNKNOWN;
        }
        if (seen.size >= MOST_SEEN) {
            return FULL;
        }
        seen.who[seen.size] = person;
        seen.heard[seen.size] = hears;
        seen.size++;
        return seen.size;
    }

    public int forget() {
        int had = seen.size;
        seen.size = 0;
        return had;
    }

    public int places() {
        return hasSuburb() ? possibleCorners() : STATE;
    }

    public int ask() {
        return hasSuburb() ? bestWitness(possibleCorners()) : STATE;
    }

    public int evenings(int hours, int seed, int what) {
        if (!isWithin(hours, 1, MOST_EVENING_HOURS) || seed < 0 || !isWithin(what, 0, 2)) {
            return OUTSIDE;
        }
        if (!hasSuburb()) {
            return STATE;
        }
        trial.copy(evening);
        int seedThen = drift(hours, seed);
        if (what == 2) {
            return seedThen;
        }
        return what == 0 ? trial.servedNumber() - evening.servedNumber() : trial.van;
    }

    // ---- what is told of all

    public int image() {
        if (!hasSuburb()) {
            return STATE;
        }
        keptFolk.copy(folk);
        keptEvening.copy(evening);
        keptSeen.copy(seen);
        isKept = true;
        return evening.hour;
    }

    public int restore() {
        if (!isKept) {
            return STATE;
        }
        folk.copy(keptFolk);
        evening.copy(keptEvening);
        seen.copy(keptSeen);
        return evening.hour;
    }

    public int count(int what) {
        switch (what) {
            case 0: return town.corners;
            case 1: return town.roads;
            case 2: return folk.size;
            case 3: return evening.van;
            case 4: return evening.hour;
            case 5: return evening.servedNumber();
            case 6: return evening.countedByAll();
            case 7: return hearersNumber();
            case 8: return seen.size;
            case 9: return page.size;
            case 10: return suburbsRead;
            case 11: return roundsDone;
            default: return OUTSIDE;
        }
    }

    public long digest() {
        long sum = digestOfPeople(1237L);
        sum = digestOfStreets(sum);
        if (hasSuburb()) {
            sum = mix(mix(sum, places()), ask());
        }
        for (int place = 0; place < page.size; place++) {
            sum = mix(sum, page.codes[place]);
        }
        for (int what = 0; what < COUNTS; what++) {
            sum = mix(sum, count(what));
        }
        return sum;
    }

    private long digestOfPeople(long start) {
        long sum = start;
        for (int who = 0; who < folk.size; who++) {
            for (int what = 0; what < PERSON_FACTS; what++) {
                sum = mix(sum, person(who, what));
            }
            sum = mix(mix(sum, odds(who, 2, 0)), odds(who, 2, 1));
        }
        return sum;
    }

    private long digestOfStreets(long start) {
        long sum = start;
        for (int nth = 0; nth < town.roads; nth++) {
            for (int what = 0; what < ROAD_FACTS; what++) {
                sum = mix(sum, road(nth, what));
            }
        }
        for (int nth = 0; nth < town.corners; nth++) {
            for (int what = 0; what < CORNER_FACTS; what++) {
                sum = mix(sum, corner(nth, what));
            }
        }
        return sum;
    }

    private boolean hasSuburb() {
        return suburbsRead > 0;
    }

    private boolean isPerson(int number) {
        return isWithin(number, 0, folk.size - 1);
    }

    private boolean isCorner(int number) {
        return isWithin(number, 0, town.corners - 1);
    }

    private boolean hearsVan(int who) {
        return hasBit(earshot(who), evening.van);
    }

    /** The corners, as bits, at which one hears the van if it is there. */
    private int earshot(int who) {
        int bits = 0;
        int home = folk.home[who];
        for (int place = 0; place < town.corners; place++) {
            int steps = town.steps[home][place];
            if (steps != NONE && steps <= folk.ears[who]) {
                bits |= 1 << place;
            }
        }
        return bits;
    }

    private int hearersNumber() {
        int number = 0;
        for (int who = 0; who < folk.size; who++) {
            number += hearsVan(who) ? 1 : 0;
        }
        return number;
    }

    /**
     * No way of going is better for one than straight to his corner and to stay there: the van is
     * with him then in every hour in which any other way could have it there.
     */
    private int soonest(int who) {
        if (evening.isServed(who)) {
            return 0;
        }
        int way = town.steps[evening.van][folk.home[who]];
        if (way == NONE) {
            return NONE;
        }
        int counted = evening.counts[who];
        for (int hours = 1; hours <= MOST_AHEAD; hours++) {
            counted = folk.countedAfter(who, counted, hours >= way, evening.hour + hours);
            if (counted >= folk.needs(who)) {
                return hours;
            }
        }
        return NONE;
    }

    private int possibleCorners() {
        int bits = (1 << town.corners) - 1;
        for (int nth = 0; nth < seen.size; nth++) {
            int hearing = earshot(seen.who[nth]);
            bits &= seen.heard[nth] ? hearing : ~hearing;
        }
        return bits;
    }

    private int bestWitness(int possible) {
        int all = Integer.bitCount(possible);
        if (all == 0) {
            return NONE;
        }
        int best = NONE;
        int fewestLeft = all + 1;
        for (int who = 0; who < folk.size; who++) {
            int hearing = Integer.bitCount(possible & earshot(who));
            int left = Math.max(hearing, all - hearing);
            if (left < fewestLeft) {
                fewestLeft = left;
                best = who;
            }
        }
        return best;
    }

    /** Lets the trial evening go by draws, and tells the seed then. */
    private int drift(int hours, int seed) {
        long drawn = seed;
        for (int hour = 0; hour < hours && town.roads > 0; hour++) {
            drawn = (1103515245L * drawn + 12345L) & 0x7fffffffL;
            int nth = (int) (drawn / 65536L % town.roads);
            trial.pass(town.alongRoad(nth, trial.van), folk);
        }
        return (int) drawn;
    }

    private static boolean isWithin(int number, int least, int most) {
        return number >= least && number <= most;
    }

    private static boolean hasBit(int bits, int number) {
        return (bits >> number & 1) != 0;
    }

    private static long mix(long sum, long number) {
        return 31L * sum + number;
    }

    /** The letters that wait to be read. */
    private static final class Page {
        private static final String KIND_LETTERS = "ptchd";
        private static final int HEAD_WIDTH = 3, ROAD_WIDTH = 3, PERSON_WIDTH = 5;

        final int[] codes;
        int size;
        // What the latest look at the letters has found; people begin nowhere before the roads end.
        int roads, people, peopleStart;

        Page() {
            codes = new int[MOST_LETTERS];
        }

        int firstFault() {
            roads = 0;
            people = 0;
            peopleStart = NONE;
            for (int place = 0; place < size; place++) {
                if (!takes(place)) {
                    return place;
                }
            }
            return size;
        }

        boolean isSuburb() {
            return firstFault() == size && people >= FEWEST_PEOPLE && size == personStart(people) - 1;
        }

        int roadStart(int road) {
            return HEAD_WIDTH + ROAD_WIDTH * road;
        }

        int personStart(int person) {
            return peopleStart + PERSON_WIDTH * person;
        }

        int digitAt(int place) {
            return place >= 0 && place < size ? codes[place] - '0' : 0;
        }

        int kindAt(int place) {
            return place >= 0 && place < size ? KIND_LETTERS.indexOf((char) codes[place]) : NONE;
        }

        private boolean takes(int place) {
            if (place < HEAD_WIDTH) {
                return takesHead(place);
            }
            return peopleStart == NONE ? takesRoads(place) : takesPeople(place);
        }

        private boolean takesHead(int place) {
            switch (place) {
                case 0: return isWithin(digitAt(0), 2, MOST_CORNERS);
                case 1: return isCornerAt(1);
                default: return codes[place] == ';';
            }
        }

        private boolean takesRoads(int place) {
            int part = (place - HEAD_WIDTH) % ROAD_WIDTH;
            if (part == 0) {
                return isCornerAt(place);
            }
            if (part == 1) {
                return isCornerAt(place) && codes[place] != codes[place - 1];
            }
            roads++;
            if (codes[place] == ';') {
                peopleStart = place + 1;
                return true;
            }
            return codes[place] == ',' && roads < MOST_ROADS;
        }

        private boolean takesPeople(int place) {
            switch ((place - peopleStart) % PERSON_WIDTH) {
                case 0: return kindAt(place) != NONE;
                case 1: return isCornerAt(place);
                case 2: return isDigitAt(place);
                case 3:
                    people++;
                    return isDigitAt(place);
                default: return codes[place] == ',' && people < MOST_PEOPLE;
            }
        }

        private boolean isDigitAt(int place) {
            return isWithin(digitAt(place), 0, MOST_DIGIT);
        }

        private boolean isCornerAt(int place) {
            return isWithin(digitAt(place), 0, digitAt(0) - 1);
        }
    }

    /** The corners and roads, with what follows from them alone. */
    private static final class Town {
        int corners, roads;
        final int[] firstEnd, otherEnd;
        // Bits: where the van can be an hour later, by where it is; that corner is one of them.
        final int[] reach;
        final int[] roadsAt;
        final int[][] steps;
        // By the van's corner, then the follower's.
        final int[][] catchHours;

        Town() {
            firstEnd = new int[MOST_ROADS];
            otherEnd = new int[MOST_ROADS];
            reach = new int[MOST_CORNERS];
            roadsAt = new int[MOST_CORNERS];
            steps = new int[MOST_CORNERS][MOST_CORNERS];
            catchHours = new int[MOST_CORNERS][MOST_CORNERS];
        }

        void build(Page page) {
            corners = page.digitAt(0);
            roads = page.roads;
            for (int place = 0; place < corners; place++) {
                reach[place] = 1 << place;
                roadsAt[place] = 0;
            }
            for (int nth = 0; nth < roads; nth++) {
                int start = page.roadStart(nth);
                layRoad(nth, page.digitAt(start), page.digitAt(start + 1));
            }
            for (int from = 0; from < corners; from++) {
                measureSteps(from);
            }
            measureCatches();
        }

        /** Where one is behind an hour on a road, who was at a corner; there, if it does not end there. */
        int alongRoad(int nth, int from) {
            if (firstEnd[nth] == from) {
                return otherEnd[nth];
            }
            return otherEnd[nth] == from ? firstEnd[nth] : from;
        }

        private void layRoad(int nth, int one, int other) {
            firstEnd[nth] = one;
            otherEnd[nth] = other;
            reach[one] |= 1 << other;
            reach[other] |= 1 << one;
            roadsAt[one]++;
            roadsAt[other]++;
        }

        private void measureSteps(int from) {
            Arrays.fill(steps[from], NONE);
            int found = 1 << from;
            steps[from][from] = 0;
            for (int number = 1; number < corners; number++) {
                int fresh = spread(found) & ~found;
                for (int place = 0; place < corners; place++) {
                    if (hasBit(fresh, place)) {
                        steps[from][place] = number;
                    }
                }
                found |= fresh;
            }
        }

        private int spread(int bits) {
            int wider = 0;
            for (int place = 0; place < corners; place++) {
                if (hasBit(bits, place)) {
                    wider |= reach[place];
                }
            }
            return wider;
        }

        private void measureCatches() {
            for (int van = 0; van < corners; van++) {
                Arrays.fill(catchHours[van], NONE);
                catchHours[van][van] = 0;
            }
            boolean isMore = true;
            for (int hours = 1; hours <= MOST_AHEAD && isMore; hours++) {
                isMore = findCatches(hours);
            }
        }

        /** Finds those that take just so many hours, and tells whether there is one. */
        private boolean findCatches(int hours) {
            boolean isMore = false;
            for (int van = 0; van < corners; van++) {
                for (int follower = 0; follower < corners; follower++) {
                    if (catchHours[van][follower] == NONE && isCaught(van, follower, hours)) {
                        catchHours[van][follower] = hours;
                        isMore = true;
                    }
                }
            }
            return isMore;
        }

        private boolean isCaught(int van, int follower, int hours) {
            for (int place = 0; place < corners; place++) {
                if (hasBit(reach[van], place) && !canAnswer(place, follower, hours)) {
                    return false;
                }
            }
            return true;
        }

        private boolean canAnswer(int van, int follower, int hours) {
            for (int place = 0; place < corners; place++) {
                int rest = catchHours[van][place];
                if (hasBit(reach[follower], place) && rest != NONE && rest < hours) {
                    return true;
                }
            }
            return false;
        }
    }

    /** The people: where they live, of which kind they are, from when on, how far they hear. */
    private static final class Folk {
        private static final int[] NEEDS = {1, 2, 1, 2, 3};

        int size;
        final int[] home, kind, due, ears;

        Folk() {
            home = new int[MOST_PEOPLE];
            kind = new int[MOST_PEOPLE];
            due = new int[MOST_PEOPLE];
            ears = new int[MOST_PEOPLE];
        }

        void settle(Page page) {
            size = page.people;
            for (int who = 0; who < size; who++) {
                int start = page.personStart(who);
                kind[who] = page.kindAt(start);
                home[who] = page.digitAt(start + 1);
                due[who] = page.digitAt(start + 2);
                ears[who] = page.digitAt(start + 3);
            }
        }

        void copy(Folk other) {
            size = other.size;
            System.arraycopy(other.home, 0, home, 0, MOST_PEOPLE);
            System.arraycopy(other.kind, 0, kind, 0, MOST_PEOPLE);
            System.arraycopy(other.due, 0, due, 0, MOST_PEOPLE);
            System.arraycopy(other.ears, 0, ears, 0, MOST_PEOPLE);
        }

        int needs(int who) {
            return NEEDS[kind[who]];
        }

        boolean isOfKind(int who, int asked) {
            return asked == 0 || kind[who] == asked || asked == THINKER && kind[who] == DOCTOR;
        }

        int whoLivesAt(int place) {
            int bits = 0;
            for (int who = 0; who < size; who++) {
                if (home[who] == place) {
                    bits |= 1 << who;
                }
            }
            return bits;
        }

        /** What one who is not served counts behind an hour, by whether the van is at his corner in it. */
        int countedAfter(int who, int counted, boolean isHere, int hour) {
            if (!isHere) {
                return kind[who] == HEDGE ? 0 : counted;
            }
            boolean isTime = hour >= due[who] && (kind[who] != CHILD || hour % 2 != 0);
            return isTime ? counted + 1 : counted;
        }
    }

    /** Where the van is, the hour, and how far each one has come. */
    private static final class Evening {
        int van, hour, served;
        final int[] counts;

        Evening() {
            counts = new int[MOST_PEOPLE];
        }

        void begin(int corner) {
            van = corner;
            hour = 0;
            served = 0;
            Arrays.fill(counts, 0);
        }

        void copy(Evening other) {
            van = other.van;
            hour = other.hour;
            served = other.served;
            System.arraycopy(other.counts, 0, counts, 0, MOST_PEOPLE);
        }

        boolean isServed(int who) {
            return hasBit(served, who);
        }

        int servedNumber() {
            return Integer.bitCount(served);
        }

        void forgo(int who) {
            counts[who] = 0;
            served &= ~(1 << who);
        }

        int pass(int corner, Folk folk) {
            int before = servedNumber();
            van = corner;
            hour++;
            for (int who = 0; who < folk.size; who++) {
                if (!isServed(who)) {
                    meet(who, folk);
                }
            }
            return servedNumber() - before;
        }

        private void meet(int who, Folk folk) {
            counts[who] = folk.countedAfter(who, counts[who], folk.home[who] == van, hour);
            if (counts[who] >= folk.needs(who)) {
                served |= 1 << who;
            }
        }

        int countedByAll() {
            return countedBy(0);
        }

        int countedByUnserved() {
            return countedBy(served);
        }

        private int countedBy(int leftOut) {
            int sum = 0;
            for (int who = 0; who < MOST_PEOPLE; who++) {
                if (!hasBit(leftOut, who)) {
                    sum += counts[who];
                }
            }
            return sum;
        }
    }

    /** What is said of who heard the van. */
    private static final class Hearsay {
        int size;
        final int[] who;
        final boolean[] heard;

        Hearsay() {
            who = new int[MOST_SEEN];
            heard = new boolean[MOST_SEEN];
        }

        void copy(Hearsay other) {
            size = other.size;
            for (int nth = 0; nth < MOST_SEEN; nth++) {
                who[nth] = other.who[nth];
                heard[nth] = other.heard[nth];
            }
        }
    }

    /** Tries every way of the van for some hours, the lower corners first, and keeps the best. */
    private static final class RoundSearch {
        final int[] bestWay;
        int bestServed, bestCounted;
        private final int[] way;
        private final Evening[] trials;

        RoundSearch() {
            bestWay = new int[MOST_ROUND_HOURS];
            way = new int[MOST_ROUND_HOURS];
            trials = new Evening[MOST_ROUND_HOURS + 1];
            for (int depth = 0; depth <= MOST_ROUND_HOURS; depth++) {
                trials[depth] = new Evening();
            }
        }

        void run(Town town, Folk folk, Evening start, int hours) {
            bestServed = NONE;
            bestCounted = NONE;
            trials[0].copy(start);
            extend(town, folk, 0, hours);
        }

        private void extend(Town town, Folk folk, int depth, int hours) {
            if (depth >= hours || depth >= MOST_ROUND_HOURS) {
                judge(trials[depth]);
                return;
            }
            Evening here = trials[depth];
            Evening next = trials[depth + 1];
            for (int place = 0; place < town.corners; place++) {
                if (hasBit(town.reach[here.van], place)) {
                    way[depth] = place;
                    next.copy(here);
                    next.pass(place, folk);
                    extend(town, folk, depth + 1, hours);
                }
            }
        }

        private void judge(Evening end) {
            int served = end.servedNumber() - trials[0].servedNumber();
            int counted = end.countedByUnserved();
            if (served > bestServed || served == bestServed && counted > bestCounted) {
                bestServed = served;
                bestCounted = counted;
                System.arraycopy(way, 0, bestWay, 0, MOST_ROUND_HOURS);
            }
        }
    }

    /** How likely the van is at each corner, if it strays. */
    private static final class Stray {
        // Every number of roads at a corner, 1 to 8, divides this, so that all parts stay whole.
        private static final long PARTS = 840L;
        private static final int MOST_DIVISIONS = 100;

        private long whole;
        private final long[] chance, later;

        Stray() {
            chance = new long[MOST_CORNERS];
            later = new long[MOST_CORNERS];
        }

        void run(Town town, int van, int hours) {
            Arrays.fill(chance, 0L);
            chance[van] = 1L;
            whole = 1L;
            for (int hour = 0; hour < hours; hour++) {
                scatter(town);
                whole *= PARTS;
            }
        }

        int above(int place) {
            return (int) (chance[place] / sharedPart(place));
        }

        int below(int place) {
            return (int) (whole / sharedPart(place));
        }

        private void scatter(Town town) {
            for (int place = 0; place < town.corners; place++) {
                later[place] = town.roadsAt[place] == 0 ? chance[place] * PARTS : 0L;
            }
            for (int nth = 0; nth < town.roads; nth++) {
                int one = town.firstEnd[nth];
                int other = town.otherEnd[nth];
                later[other] += partPerRoad(town, one);
                later[one] += partPerRoad(town, other);
            }
            System.arraycopy(later, 0, chance, 0, town.corners);
        }

        private long partPerRoad(Town town, int from) {
            int roads = town.roadsAt[from];
            return roads > 0 ? chance[from] * (PARTS / roads) : 0L;
        }

        /** The greatest number that divides both the chance and the whole; 1 at least. */
        private long sharedPart(int place) {
            long greater = whole;
            long lesser = chance[place];
            for (int nth = 0; nth < MOST_DIVISIONS && lesser != 0L; nth++) {
                long rest = greater % lesser;
                greater = lesser;
                lesser = rest;
            }
            return Math.max(greater, 1L);
        }
    }
}
