import java.math.BigInteger;
import java.util.ArrayList;
import java.util.Arrays;
import java.util.HashSet;
import java.util.List;
import java.util.Set;
import java.util.regex.Matcher;
import java.util.regex.Pattern;

/** The document told again, as plainly as it can be and without a thought of speed, to compare with. */
final class Model {
    static final int NONE = -1, UNKNOWN = -101, OUTSIDE = -102, STATE = -103, FULL = -104;

    /** Of one: all that he is and has. */
    record One(char kind, int corner, int hour, int ears, int counts, boolean served) {
        int number() {
            return "ptchd".indexOf(kind);
        }

        int needs() {
            return switch (kind) {
                case 'p', 'c' -> 1;
                case 't', 'h' -> 2;
                default -> 3;
            };
        }

        One behind(int van, int hour) {
            if (served) {
                return this;
            }
            int now = counts;
            if (van == corner && hour >= this.hour && !(kind == 'c' && hour % 2 == 0)) {
                now++;
            }
            if (van != corner && kind == 'h') {
                now = 0;
            }
            return new One(kind, corner, this.hour, ears, now, now == needs());
        }
    }

    record Now(int van, int hour, List<One> people) {
        Now behind(int corner) {
            List<One> next = new ArrayList<>();
            for (One one : people) {
                next.add(one.behind(corner, hour + 1));
            }
            return new Now(corner, hour + 1, next);
        }

        int served() {
            return (int) people.stream().filter(One::served).count();
        }

        int unservedCounts() {
            return people.stream().filter(one -> !one.served()).mapToInt(One::counts).sum();
        }
    }

    record Sight(int who, boolean hears) { }

    record Image(Now now, List<Sight> seen) { }

    private String page = "";
    private int corners, suburbs, rounds;
    private List<int[]> roads = new ArrayList<>();
    private Now now = new Now(0, 0, List.of());
    private List<Sight> seen = new ArrayList<>();
    private Image image;

    int letter(int code) {
        if (code < 1 || code > 126) {
            return OUTSIDE;
        }
        if (page.length() == 60) {
            return FULL;
        }
        page += (char) code;
        return page.length();
    }

    int blank() {
        int had = page.length();
        page = "";
        return had;
    }

    private static Pattern pattern(int corners) {
        StringBuilder road = new StringBuilder();
        for (int one = 0; one < corners; one++) {
            for (int other = 0; other < corners; other++) {
                if (one != other) {
                    road.append(road.length() == 0 ? "" : "|").append(one).append(other);
                }
            }
        }
        String corner = "[0-" + (corners - 1) + "]";
        String person = "[ptchd]" + corner + "[0-9][0-9]";
        return Pattern.compile(corners + corner + ";(" + road + ")(,(" + road + ")){0,7};"
                + person + "(," + person + "){1,5}");
    }

    private static final List<Pattern> PATTERNS =
            List.of(pattern(2), pattern(3), pattern(4), pattern(5), pattern(6));

    private static boolean begins(String text) {
        for (Pattern pattern : PATTERNS) {
            Matcher matcher = pattern.matcher(text);
            if (matcher.matches() || matcher.hitEnd()) {
                return true;
            }
        }
        return false;
    }

    int fault() {
        int place = 0;
        while (place < page.length() && begins(page.substring(0, place + 1))) {
            place++;
        }
        return place;
    }

    int suburb() {
        String text = page;
        if (PATTERNS.stream().noneMatch(pattern -> pattern.matcher(text).matches())) {
            return STATE;
        }
        String[] parts = page.split(";");
        corners = Integer.parseInt(parts[0].substring(0, 1));
        roads = new ArrayList<>();
        for (String road : parts[1].split(",")) {
            roads.add(new int[] {road.charAt(0) - '0', road.charAt(1) - '0'});
        }
        List<One> people = new ArrayList<>();
        for (String one : parts[2].split(",")) {
            people.add(new One(one.charAt(0), one.charAt(1) - '0', one.charAt(2) - '0', one.charAt(3) - '0',
                    0, false));
        }
        now = new Now(Integer.parseInt(parts[0].substring(1)), 0, people);
        seen = new ArrayList<>();
        image = null;
        suburbs++;
        page = "";
        return people.size();
    }

    private boolean isPerson(int number) {
        return number >= 0 && number < now.people().size();
    }

    private boolean isCorner(int number) {
        return number >= 0 && number < corners;
    }

    private boolean isStraight(int from, int to) {
        return roads.stream().anyMatch(road -> road[0] == from && road[1] == to || road[0] == to && road[1] == from);
    }

    private List<Integer> nextOf(int van) {
        List<Integer> next = new ArrayList<>();
        for (int corner = 0; corner < corners; corner++) {
            if (corner == van || isStraight(van, corner)) {
                next.add(corner);
            }
        }
        return next;
    }

    private int distance(int from, int to) {
        int[][] table = new int[corners][corners];
        for (int one = 0; one < corners; one++) {
            for (int other = 0; other < corners; other++) {
                table[one][other] = one == other ? 0 : isStraight(one, other) ? 1 : 1000;
            }
        }
        for (int by = 0; by < corners; by++) {
            for (int one = 0; one < corners; one++) {
                for (int other = 0; other < corners; other++) {
                    table[one][other] = Math.min(table[one][other], table[one][by] + table[by][other]);
                }
            }
        }
        return table[from][to] >= 1000 ? NONE : table[from][to];
    }

    private boolean hears(int who, int van) {
        One one = now.people().get(who);
        int far = distance(one.corner(), van);
        return far != NONE && far <= one.ears();
    }

    private int soon(int who) {
        if (now.people().get(who).served()) {
            return 0;
        }
        Set<Now> ways = new HashSet<>();
        ways.add(new Now(now.van(), now.hour(), List.of(now.people().get(who))));
        for (int hours = 1; hours <= 40; hours++) {
            Set<Now> later = new HashSet<>();
            for (Now way : ways) {
                for (int corner : nextOf(way.van())) {
                    Now then = way.behind(corner);
                    if (then.served() > 0) {
                        return hours;
                    }
                    later.add(then);
                }
            }
            ways = later;
        }
        return NONE;
    }

    int person(int person, int what) {
        if (!isPerson(person)) {
            return UNKNOWN;
        }
        One one = now.people().get(person);
        return switch (what) {
            case 0 -> one.number();
            case 1 -> one.corner();
            case 2 -> one.hour();
            case 3 -> one.ears();
            case 4 -> one.served() ? 1 : 0;
            case 5 -> one.counts();
            case 6 -> one.needs();
            case 7 -> hears(person, now.van()) ? 1 : 0;
            case 8 -> soon(person);
            default -> OUTSIDE;
        };
    }

    int as(int person, int kind) {
        if (!isPerson(person)) {
            return UNKNOWN;
        }
        if (kind < 0 || kind > 4) {
            return OUTSIDE;
        }
        int[][] such = {{0}, {0, 1}, {0, 2}, {0, 3}, {0, 1, 4}};
        int own = now.people().get(person).number();
        return Arrays.stream(such[own]).anyMatch(each -> each == kind) ? person : NONE;
    }

    int road(int road, int what) {
        if (road < 0 || road >= roads.size()) {
            return UNKNOWN;
        }
        return what == 0 || what == 1 ? roads.get(road)[what] : OUTSIDE;
    }

    int corner(int corner, int what) {
        if (!isCorner(corner)) {
            return UNKNOWN;
        }
        int bits = 0;
        switch (what) {
            case 0:
                for (int other = 0; other < corners; other++) {
                    bits |= isStraight(corner, other) ? 1 << other : 0;
                }
                return bits;
            case 1:
                for (int who = 0; who < now.people().size(); who++) {
                    bits |= now.people().get(who).corner() == corner ? 1 << who : 0;
                }
                return bits;
            case 2: return distance(corner, now.van());
            case 3: return catchIn(corner);
            default: return OUTSIDE;
        }
    }

    private int catchIn(int follower) {
        boolean[][] sure = new boolean[corners][corners];
        for (int corner = 0; corner < corners; corner++) {
            sure[corner][corner] = true;
        }
        for (int hours = 0; hours <= 40; hours++) {
            if (sure[now.van()][follower]) {
                return hours;
            }
            sure = surer(sure);
        }
        return NONE;
    }

    private boolean[][] surer(boolean[][] sure) {
        boolean[][] next = new boolean[corners][corners];
        for (int van = 0; van < corners; van++) {
            for (int she = 0; she < corners; she++) {
                boolean always = true;
                for (int goal : nextOf(van)) {
                    always &= nextOf(she).stream().anyMatch(step -> sure[goal][step]);
                }
                next[van][she] = van == she || always;
            }
        }
        return next;
    }

    int far(int from, int to) {
        return isCorner(from) && isCorner(to) ? distance(from, to) : UNKNOWN;
    }

    int go(int corner) {
        if (!isCorner(corner)) {
            return UNKNOWN;
        }
        if (!nextOf(now.van()).contains(corner)) {
            return STATE;
        }
        if (now.hour() == 999) {
            return FULL;
        }
        int before = now.served();
        now = now.behind(corner);
        return now.served() - before;
    }

    int stand(int corner) {
        if (!isCorner(corner)) {
            return UNKNOWN;
        }
        int was = now.van();
        now = new Now(corner, now.hour(), now.people());
        return was;
    }

    int call(int person, int kind, int hour, int ears) {
        if (!isPerson(person)) {
            return UNKNOWN;
        }
        if (kind < 0 || kind > 4 || hour < 0 || hour > 9 || ears < 0 || ears > 9) {
            return OUTSIDE;
        }
        List<One> people = new ArrayList<>(now.people());
        One was = people.get(person);
        people.set(person, new One("ptchd".charAt(kind), was.corner(), hour, ears, 0, false));
        now = new Now(now.van(), now.hour(), people);
        return was.number();
    }

    int round(int hours, int what) {
        if (hours < 1 || hours > 5 || !(what == 0 || what == 1 || what >= 10 && what <= 14)) {
            return OUTSIDE;
        }
        if (suburbs == 0 || rounds == 20) {
            return STATE;
        }
        rounds++;
        int[] best = bestRound(hours);
        if (what >= 10) {
            return what - 10 < hours ? best[2 + what - 10] : NONE;
        }
        return best[what];
    }

    /** How many, how much, then the corners: all ways in the order of their numbers. */
    private int[] bestRound(int hours) {
        int[] best = {-1, -1};
        int ways = (int) Math.pow(corners, hours);
        for (int way = 0; way < ways; way++) {
            int[] places = new int[hours];
            int rest = way;
            for (int nth = hours - 1; nth >= 0; nth--) {
                places[nth] = rest % corners;
                rest /= corners;
            }
            Now then = now;
            for (int place : places) {
                then = then != null && nextOf(then.van()).contains(place) ? then.behind(place) : null;
            }
            if (then == null) {
                continue;
            }
            int many = then.served() - now.served();
            int much = then.unservedCounts();
            if (many > best[0] || many == best[0] && much > best[1]) {
                best = new int[2 + hours];
                best[0] = many;
                best[1] = much;
                System.arraycopy(places, 0, best, 2, hours);
            }
        }
        return best;
    }

    int odds(int person, int hours, int what) {
        if (!isPerson(person)) {
            return UNKNOWN;
        }
        if (hours < 1 || hours > 4 || what < 0 || what > 1) {
            return OUTSIDE;
        }
        BigInteger[] odds = oddsFrom(now.van(), hours, now.people().get(person).corner());
        return odds[what].intValueExact();
    }

    private BigInteger[] oddsFrom(int van, int hours, int goal) {
        if (hours == 0) {
            return new BigInteger[] {van == goal ? BigInteger.ONE : BigInteger.ZERO, BigInteger.ONE};
        }
        List<Integer> next = new ArrayList<>();
        for (int[] road : roads) {
            if (road[0] == van || road[1] == van) {
                next.add(road[0] == van ? road[1] : road[0]);
            }
        }
        if (next.isEmpty()) {
            next.add(van);
        }
        BigInteger above = BigInteger.ZERO;
        BigInteger below = BigInteger.ONE;
        for (int corner : next) {
            BigInteger[] part = oddsFrom(corner, hours - 1, goal);
            above = above.multiply(part[1]).add(part[0].multiply(below));
            below = below.multiply(part[1]);
        }
        below = below.multiply(BigInteger.valueOf(next.size()));
        BigInteger shared = above.gcd(below);
        return new BigInteger[] {above.divide(shared), below.divide(shared)};
    }

    int see(int person, boolean hears) {
        if (!isPerson(person)) {
            return UNKNOWN;
        }
        if (seen.size() == 6) {
            return FULL;
        }
        seen.add(new Sight(person, hears));
        return seen.size();
    }

    int forget() {
        int had = seen.size();
        seen.clear();
        return had;
    }

    private boolean canBe(int corner) {
        return seen.stream().allMatch(sight -> hears(sight.who(), corner) == sight.hears());
    }

    int places() {
        if (suburbs == 0) {
            return STATE;
        }
        int bits = 0;
        for (int corner = 0; corner < corners; corner++) {
            bits |= canBe(corner) ? 1 << corner : 0;
        }
        return bits;
    }

    int ask() {
        if (suburbs == 0) {
            return STATE;
        }
        int best = NONE;
        int fewest = 100;
        for (int who = 0; who < now.people().size(); who++) {
            int yes = 0;
            int no = 0;
            for (int corner = 0; corner < corners; corner++) {
                if (canBe(corner)) {
                    yes += hears(who, corner) ? 1 : 0;
                    no += hears(who, corner) ? 0 : 1;
                }
            }
            if (yes + no > 0 && Math.max(yes, no) < fewest) {
                fewest = Math.max(yes, no);
                best = who;
            }
        }
        return best;
    }

    int evenings(int hours, int seed, int what) {
        if (hours < 1 || hours > 60 || seed < 0 || what < 0 || what > 2) {
            return OUTSIDE;
        }
        if (suburbs == 0) {
            return STATE;
        }
        BigInteger drawn = BigInteger.valueOf(seed);
        Now then = now;
        for (int hour = 0; hour < hours; hour++) {
            drawn = drawn.multiply(BigInteger.valueOf(1103515245)).add(BigInteger.valueOf(12345))
                    .mod(BigInteger.TWO.pow(31));
            int[] road = roads.get(drawn.intValueExact() / 65536 % roads.size());
            int van = then.van();
            then = then.behind(road[0] == van ? road[1] : road[1] == van ? road[0] : van);
        }
        return what == 0 ? then.served() - now.served() : what == 1 ? then.van() : drawn.intValueExact();
    }

    int image() {
        if (suburbs == 0) {
            return STATE;
        }
        image = new Image(now, new ArrayList<>(seen));
        return now.hour();
    }

    int restore() {
        if (image == null) {
            return STATE;
        }
        now = image.now();
        seen = new ArrayList<>(image.seen());
        return now.hour();
    }

    int count(int what) {
        return switch (what) {
            case 0 -> corners;
            case 1 -> roads.size();
            case 2 -> now.people().size();
            case 3 -> now.van();
            case 4 -> now.hour();
            case 5 -> now.served();
            case 6 -> now.people().stream().mapToInt(One::counts).sum();
            case 7 -> {
                int number = 0;
                for (int who = 0; who < now.people().size(); who++) {
                    number += hears(who, now.van()) ? 1 : 0;
                }
                yield number;
            }
            case 8 -> seen.size();
            case 9 -> page.length();
            case 10 -> suburbs;
            case 11 -> rounds;
            default -> OUTSIDE;
        };
    }

    long digest() {
        List<Integer> numbers = new ArrayList<>();
        for (int who = 0; who < now.people().size(); who++) {
            for (int what = 0; what <= 8; what++) {
                numbers.add(person(who, what));
            }
            numbers.add(odds(who, 2, 0));
            numbers.add(odds(who, 2, 1));
        }
        for (int[] road : roads) {
            numbers.add(road[0]);
            numbers.add(road[1]);
        }
        for (int corner = 0; corner < corners; corner++) {
            for (int what = 0; what <= 3; what++) {
                numbers.add(corner(corner, what));
            }
        }
        if (suburbs > 0) {
            numbers.add(places());
            numbers.add(ask());
        }
        page.chars().forEach(numbers::add);
        for (int what = 0; what <= 11; what++) {
            numbers.add(count(what));
        }
        long sum = 1237;
        for (int number : numbers) {
            sum = 31 * sum + number;
        }
        return sum;
    }
}
