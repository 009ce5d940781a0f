import java.util.ArrayList;
import java.util.List;
import java.util.function.Consumer;
import java.util.function.ToLongFunction;

/** Two objects come the same way and one of them is asked besides: all that can be told of both must be alike. */
final class Twins {
    private static final int PEOPLE = 6;

    private final Check check;

    Twins(Check check) {
        this.check = check;
    }

    /** The call answers as is due, and leaves all as it was. */
    void unchanged(String name, Consumer<ChimeVan> way, ToLongFunction<ChimeVan> call, long due) {
        ChimeVan asked = come(way);
        check.due(name, call.applyAsLong(asked), due);
        alike(name, asked, come(way));
    }

    /** The call leaves all as it was, whatever it answers. */
    void unchanged(String name, Consumer<ChimeVan> way, ToLongFunction<ChimeVan> call) {
        ChimeVan asked = come(way);
        call.applyAsLong(asked);
        alike(name, asked, come(way));
    }

    private static ChimeVan come(Consumer<ChimeVan> way) {
        ChimeVan van = new ChimeVan();
        way.accept(van);
        return van;
    }

    private void alike(String name, ChimeVan asked, ChimeVan spared) {
        List<Long> got = story(asked);
        List<Long> want = story(spared);
        for (int nth = 0; nth < want.size(); nth++) {
            check.due(name + ", then answer " + nth, got.get(nth), want.get(nth));
        }
    }

    /** All that an object can be brought to tell: of now, of its image, of its page; it is of no use afterwards. */
    private static List<Long> story(ChimeVan van) {
        List<Long> told = new ArrayList<>();
        tellNow(van, told);
        tellSeen(van, told);
        told.add((long) van.restore());
        tellNow(van, told);
        tellSeen(van, told);
        told.add((long) van.restore());
        told.add((long) van.round(1, 10));
        told.add((long) van.letter('~'));
        told.add(van.digest());
        told.add((long) van.blank());
        return told;
    }

    private static void tellNow(ChimeVan van, List<Long> told) {
        told.add(van.digest());
        for (int what = 0; what < 12; what++) {
            told.add((long) van.count(what));
        }
        told.add((long) van.fault());
        for (int what = 0; what < 3; what++) {
            told.add((long) van.evenings(60, 1, what));
        }
    }

    /** What is seen shows in places() only by ears: so each one's ears are made the least and the most. */
    private static void tellSeen(ChimeVan van, List<Long> told) {
        for (int who = 0; who < PEOPLE; who++) {
            told.add((long) van.call(who, 0, 0, 0));
            told.add((long) van.places());
            told.add((long) van.call(who, 0, 0, 9));
            told.add((long) van.places());
        }
    }
}
