import java.util.ArrayList;
import java.util.List;
import java.util.function.Consumer;
import java.util.function.ToIntFunction;

/**
 * "An object is used for at most 512 calls after it has been made": the 512th of them still answers as is due,
 * whatever the calls before it were.
 */
final class LastCallTest {
    public static void main(String[] args) {
        lastOfEachKind();
        putsUpToTheLast();
        changesUpToTheLast();
        insertsUpToTheLast();
        conditionsUpToTheLast();
        indexesUpToTheLast();
        Check.end();
    }

    /** Calls that leave all but the buffer as it was. */
    private static List<Consumer<Shelf>> fillers() {
        List<Consumer<Shelf>> all = new ArrayList<>();
        all.add(Shelf::size);
        all.add(shelf -> shelf.put(1, 9));
        all.add(shelf -> shelf.remove(77));
        all.add(shelf -> shelf.fetch(3));
        all.add(shelf -> shelf.entries(1));
        all.add(shelf -> {
            shelf.insert(Written.document("{id:77, a:[1,2,3]}"));
            shelf.remove(77);
        });
        all.add(shelf -> {
            shelf.type(Written.value("'x'"));
            shelf.where(Shelf.EQUAL);
            shelf.anywhere();
            shelf.where("id", Shelf.MORE, "1");
            shelf.where("a", Shelf.AT_LEAST, "5");
            shelf.go("b.x");
        });
        return all;
    }

    private static void last(String what, byte[] row, ToIntFunction<Shelf> call, int want) {
        for (Consumer<Shelf> filler : fillers()) {
            Shelf shelf = Shelf.busy();
            while (shelf.callsLeft() > 70) {
                filler.accept(shelf);
            }
            shelf.type(row);
            while (shelf.callsLeft() > 1) {
                shelf.at(0);
            }
            Check.due(what + " as the last call", call.applyAsInt(shelf), want);
            Check.due("calls left", shelf.callsLeft(), 0);
        }
    }

    private static void lastOfEachKind() {
        byte[] nine = Written.value("9");
        last("put", nine, shelf -> shelf.put(1, 1) ? 1 : 0, 1);
        last("set", nine, shelf -> shelf.set(2, 255) ? 1 : 0, 1);
        last("cut", nine, shelf -> shelf.cut(3) ? 1 : 0, 1);
        last("cut", nine, shelf -> shelf.cut(4) ? 1 : 0, 0);
        last("size", nine, Shelf::size, 3);
        last("at", nine, shelf -> shelf.at(2), 9);
        last("path", nine, shelf -> shelf.path('a', 1) ? 1 : 0, 1);
        last("step", nine, shelf -> shelf.step('a', 1) ? 1 : 0, 1);
        last("insert", Written.document("{id:9, a:5}"), Shelf::insert, 9);
        last("insert of a faulty one", nine, Shelf::insert, -1);
        last("insert of a used one", Written.document("{id:4, a:5}"), Shelf::insert, -1001);
        last("fetch", nine, shelf -> shelf.fetch(4), 13);
        last("remove", nine, shelf -> shelf.remove(4) ? 1 : 0, 1);
        last("index", nine, shelf -> shelf.index(1) ? 1 : 0, 1);
        last("entries", nine, shelf -> shelf.entries(0), 5);
        last("where", nine, shelf -> shelf.where(Shelf.EQUAL), 2);
        last("anywhere", nine, Shelf::anywhere, 2);
        last("find", nine, Shelf::find, 2);
        last("found", nine, shelf -> shelf.found(3), 4);
        last("examined", nine, Shelf::examined, 2);
        last("change", nine, shelf -> shelf.change(Shelf.SET), 1);
        last("count", nine, Shelf::count, 4);
    }

    private static void putsUpToTheLast() {
        Shelf shelf = new Shelf();
        for (int k = 0; k < 511; k++) {
            Check.due("put " + k, shelf.put(k, 1), k < 80);
        }
        Check.due("the last byte", shelf.at(79), 79);
        Check.due("calls left", shelf.callsLeft(), 0);
    }

    private static void changesUpToTheLast() {
        Shelf shelf = Shelf.of("{id:1}");
        shelf.index(0, "a");
        int done = 0;
        while (shelf.callsLeft() > 20) {
            shelf.put(0x010081, 3);
            done++;
            Check.due("ADD " + done, shelf.change(Shelf.ADD), 129L * done <= 32767 ? 1 : 0);
        }
        shelf.dueStored("the sum", "{id:1, a:" + 129 * done + "}");
    }

    private static void insertsUpToTheLast() {
        Shelf shelf = new Shelf();
        shelf.index(0, "id");
        for (int number = 0; shelf.callsLeft() > 10; number++) {
            Check.due("insert", shelf.insert(Written.stored(number)), number);
            Check.due("remove of one from before", shelf.remove(number - 15), number >= 15);
            Check.due("entries", shelf.entries(0), Math.min(number + 1, 15));
        }
        Check.due("count", shelf.count(), 15);
    }

    private static void conditionsUpToTheLast() {
        Shelf shelf = Shelf.of("{id:1, a:1}", "{id:2, a:2}");
        shelf.index(0, "a");
        while (shelf.callsLeft() > 20) {
            Check.due("where", shelf.where("a", Shelf.MORE, "1"), 0);
            Check.due("find", shelf.find(), 1);
            Check.due("examined", shelf.examined(), 1);
            Check.due("anywhere", shelf.anywhere(), 1);
        }
        Check.due("find", shelf.find(), 2);
    }

    private static void indexesUpToTheLast() {
        Shelf shelf = Shelf.of("{id:1, a:1, b:[1,2]}", "{id:2, a:2}");
        while (shelf.callsLeft() > 10) {
            shelf.index(0, "a");
            Check.due("entries of a", shelf.entries(0), 2);
            shelf.index(0, "b");
            Check.due("entries of b", shelf.entries(0), 2);
        }
        shelf.index(0, "id");
        Check.due("entries of id", shelf.entries(0), 2);
    }
}
