import java.util.ArrayList;
import java.util.List;
import java.util.function.Predicate;
import java.util.function.Supplier;
import java.util.function.ToIntFunction;

/**
 * "A call that is refused changes nothing.": of two objects made alike one gets the refused call; afterwards
 * all the other calls answer the same on both. Each look is at a new pair, for a look changes things itself.
 */
final class Refused {
    private static final int MOST_DOCUMENTS = 16;
    private static final int MOST_BYTES = 80;

    private Refused() {
    }

    static void due(String what, Supplier<Shelf> made, ToIntFunction<Shelf> call, int want) {
        look(what, made, call, want, "the buffer", Refused::buffer);
        look(what, made, call, want, "what was found and the like", Refused::results);
        look(what, made, call, want, "the path", Refused::path);
        look(what, made, call, want, "the conditions", Refused::conditions);
        for (int k = 0; k <= MOST_DOCUMENTS; k++) {
            int which = k;
            if (!look(what, made, call, want, "document " + k, shelf -> document(shelf, which))) {
                break;
            }
        }
    }

    static void dueFalse(String what, Supplier<Shelf> made, Predicate<Shelf> call) {
        due(what, made, shelf -> bit(call.test(shelf)), 0);
    }

    /** False if there was nothing to look at. */
    private static boolean look(String what, Supplier<Shelf> made, ToIntFunction<Shelf> call, int want, String at,
            java.util.function.Function<Shelf, List<Integer>> look) {
        Shelf refusing = made.get();
        Shelf other = made.get();
        Check.due(what, call.applyAsInt(refusing), want);
        List<Integer> due = look.apply(other);
        Check.due(what + ", and afterwards " + at, look.apply(refusing), due);
        return !due.isEmpty();
    }

    private static int bit(boolean truth) {
        return truth ? 1 : 0;
    }

    private static List<Integer> buffer(Shelf shelf) {
        List<Integer> seen = new ArrayList<>();
        seen.add(shelf.size());
        for (int p = -1; p <= MOST_BYTES; p++) {
            seen.add(shelf.at(p));
        }
        return seen;
    }

    private static List<Integer> results(Shelf shelf) {
        List<Integer> seen = new ArrayList<>(List.of(shelf.count(), shelf.examined()));
        for (int i = -1; i <= 2; i++) {
            seen.add(shelf.entries(i));
        }
        for (int k = -1; k <= MOST_DOCUMENTS; k++) {
            seen.add(shelf.found(k));
        }
        return seen;
    }

    /** Its names show in the document with the lowest number, when an element has come there. */
    private static List<Integer> path(Shelf shelf) {
        List<Integer> seen = new ArrayList<>();
        shelf.anywhere();
        shelf.type(Written.nothing());
        seen.add(shelf.change(Shelf.SET));
        seen.add(bit(shelf.index(0)));
        seen.add(shelf.entries(0));
        for (int k = 0; k < 3; k++) {
            seen.add(bit(shelf.step('q', 1)));
        }
        shelf.find();
        seen.add(shelf.fetch(shelf.found(0)));
        for (byte b : shelf.buffer()) {
            seen.add((int) b);
        }
        return seen;
    }

    private static List<Integer> conditions(Shelf shelf) {
        List<Integer> seen = new ArrayList<>(List.of(shelf.find(), shelf.examined()));
        for (int k = 0; k <= MOST_DOCUMENTS; k++) {
            seen.add(shelf.found(k));
        }
        for (int k = 0; k < 4; k++) {
            seen.add(shelf.where("id", Shelf.THERE, "true"));
        }
        seen.add(shelf.anywhere());
        return seen;
    }

    private static List<Integer> document(Shelf shelf, int k) {
        List<Integer> seen = new ArrayList<>();
        shelf.anywhere();
        shelf.find();
        int number = shelf.found(k);
        if (number >= 0) {
            seen.add(number);
            seen.add(shelf.fetch(number));
            for (byte b : shelf.buffer()) {
                seen.add((int) b);
            }
        }
        return seen;
    }
}
