import java.util.Random;

/** All promises: runs of calls drawn by a fixed seed, each answer as the plain Model's. */
public final class ModelTest {
    private static final Check CHECK = new Check("ModelTest");
    private static final int RUNS = 300, CALLS = 440;
    private static final int[] ODD = {-1, 6, 7, 10, 15, 61, 127, Integer.MIN_VALUE, Integer.MAX_VALUE};

    private final Random random;
    private final int run;
    private final ChimeVan van = new ChimeVan();
    private final Model model = new Model();

    private ModelTest(int run) {
        this.run = run;
        random = new Random(run);
    }

    public static void main(String[] args) {
        for (int run = 0; run < RUNS; run++) {
            new ModelTest(run).play();
        }
        CHECK.end();
    }

    private void play() {
        if (random.nextInt(4) != 0) {
            read(text());
        }
        for (int nth = 0; nth < CALLS; nth++) {
            one(random.nextInt(100));
            if (nth % 8 == 0) {
                due("digest()", van.digest(), model.digest());
            }
        }
    }

    private void due(String call, long got, long want) {
        CHECK.due("run " + run + ": " + call, got, want);
    }

    private String text() {
        int corners = 2 + random.nextInt(5);
        StringBuilder text = new StringBuilder();
        text.append(corners).append(random.nextInt(corners)).append(';');
        int roads = 1 + random.nextInt(8);
        for (int nth = 0; nth < roads; nth++) {
            int one = random.nextInt(corners);
            int other = (one + 1 + random.nextInt(corners - 1)) % corners;
            text.append(nth == 0 ? "" : ",").append(one).append(other);
        }
        text.append(';');
        int people = 2 + random.nextInt(5);
        for (int nth = 0; nth < people; nth++) {
            text.append(nth == 0 ? "" : ",").append("ptchd".charAt(random.nextInt(5)));
            text.append(random.nextInt(corners)).append(random.nextInt(random.nextBoolean() ? 3 : 10));
            text.append(random.nextInt(random.nextBoolean() ? 3 : 10));
        }
        return text.toString();
    }

    private String spoiled(String text) {
        StringBuilder other = new StringBuilder(text);
        int place = random.nextInt(text.length());
        switch (random.nextInt(4)) {
            case 0: other.setCharAt(place, (char) (1 + random.nextInt(126))); break;
            case 1: other.setCharAt(place, text.charAt(random.nextInt(text.length()))); break;
            case 2: other.setLength(place); break;
            default: other.insert(place, text.charAt(place)); break;
        }
        return other.toString();
    }

    private void read(String text) {
        due("blank()", van.blank(), model.blank());
        for (int place = 0; place < text.length(); place++) {
            due("letter()", van.letter(text.charAt(place)), model.letter(text.charAt(place)));
        }
        due("fault() of " + text, van.fault(), model.fault());
        due("suburb() of " + text, van.suburb(), model.suburb());
    }

    /** A number of 0 to below most, or seldom an odd one. */
    private int number(int most) {
        return random.nextInt(25) == 0 ? ODD[random.nextInt(ODD.length)] : random.nextInt(most);
    }

    private void one(int draw) {
        if (draw < 2) {
            read(random.nextInt(3) == 0 ? text() : spoiled(text()));
        } else if (draw < 35) {
            walk();
        } else if (draw < 50) {
            told();
        } else if (draw < 70) {
            ahead();
        } else if (draw < 90) {
            seen();
        } else {
            pages();
        }
    }

    private void walk() {
        int corner = number(6);
        if (random.nextInt(8) == 0) {
            due("stand(" + corner + ")", van.stand(corner), model.stand(corner));
        } else if (random.nextInt(8) == 0) {
            int who = number(6);
            int kind = number(5);
            int hour = number(10);
            int ears = number(10);
            due("call()", van.call(who, kind, hour, ears), model.call(who, kind, hour, ears));
        } else {
            due("go(" + corner + ")", van.go(corner), model.go(corner));
        }
    }

    private void told() {
        int nth = number(7);
        int what = number(9);
        switch (random.nextInt(6)) {
            case 0: due("person(" + nth + ", " + what + ")", van.person(nth, what), model.person(nth, what)); break;
            case 1: due("as(" + nth + ", " + what + ")", van.as(nth, what), model.as(nth, what)); break;
            case 2: due("road(" + nth + ", " + what + ")", van.road(nth, what), model.road(nth, what)); break;
            case 3: due("corner(" + nth + ", " + what + ")", van.corner(nth, what), model.corner(nth, what)); break;
            case 4: due("far(" + nth + ", " + what + ")", van.far(nth, what), model.far(nth, what)); break;
            default:
                int which = number(14);
                due("count(" + which + ")", van.count(which), model.count(which));
                break;
        }
    }

    private void ahead() {
        int hours = number(7);
        switch (random.nextInt(8)) {
            case 0:
                int what = random.nextBoolean() ? number(3) : 10 + number(6);
                due("round(" + hours + ", " + what + ")", van.round(hours, what), model.round(hours, what));
                break;
            case 1: case 2: case 3:
                int who = number(6);
                int part = number(2);
                due("odds(" + who + ", " + hours + ", " + part + ")",
                        van.odds(who, hours, part), model.odds(who, hours, part));
                break;
            default:
                int length = number(62);
                int seed = random.nextInt();
                seed = random.nextInt(8) == 0 ? seed : seed & Integer.MAX_VALUE;
                int fact = number(3);
                due("evenings(" + length + ", " + seed + ", " + fact + ")",
                        van.evenings(length, seed, fact), model.evenings(length, seed, fact));
                break;
        }
    }

    private void seen() {
        switch (random.nextInt(8)) {
            case 0: due("forget()", van.forget(), model.forget()); break;
            case 1: due("image()", van.image(), model.image()); break;
            case 2: due("restore()", van.restore(), model.restore()); break;
            case 3: due("places()", van.places(), model.places()); break;
            case 4: due("ask()", van.ask(), model.ask()); break;
            default:
                int who = number(6);
                boolean hears = random.nextBoolean();
                due("see(" + who + ", " + hears + ")", van.see(who, hears), model.see(who, hears));
                break;
        }
    }

    private void pages() {
        switch (random.nextInt(5)) {
            case 0: due("blank()", van.blank(), model.blank()); break;
            case 1: due("fault()", van.fault(), model.fault()); break;
            case 2: due("suburb()", van.suburb(), model.suburb()); break;
            default:
                int code = number(128);
                due("letter(" + code + ")", van.letter(code), model.letter(code));
                break;
        }
    }
}
