/**
 * Promises 9, 10, 11 and 20: insert, fetch, remove, count; and Terms: the store. Above each test stands the sentence
 * that it tests.
 */
final class StoreTest {
    /** No number of a document in the store, though some have the same lowest bytes as one that is. */
    private static final int[] NO_NUMBERS = {0, 5, -1, 999, 1000, 65537, -65535, 257, Integer.MIN_VALUE, Integer.MAX_VALUE};

    public static void main(String[] args) {
        insertKeepsAndEmpties();
        insertTakesNoType();
        insertOfFaultyBytes();
        atMostSixtyBytes();
        numberIsFirst();
        numberHasTheNameId();
        numberIsAnInt();
        numberIsUpTo999();
        numberIsNotAnothers();
        atMostSixteen();
        refusalsInOrder();
        fetchBringsTheBytes();
        fetchOfNone();
        removeTakesOne();
        removeLeavesRoomForAnother();
        removeOfNone();
        countTellsHowMany();
        Check.end();
    }

    private static void refused(String what, byte[] document, int want) {
        Refused.due(what, () -> Shelf.busyWith(document), Shelf::insert, want);
    }

    private static void kept(String what, byte[] document, int number) {
        Shelf shelf = Shelf.busyWith(document);
        Check.due(what, shelf.insert(), number);
        Check.due(what + ": count", shelf.count(), 5);
        Check.due(what + ": size", shelf.size(), 0);
        Check.due(what + ": fetch", shelf.fetch(number), document.length);
        Check.due(what + ": bytes", shelf.buffer(), document);
    }

    /** Numbers 10, 20 .. as many as there are to be. */
    private static Shelf ofMany(int n) {
        Shelf shelf = new Shelf();
        for (int k = 1; k <= n; k++) {
            Check.due("insert of number " + k, shelf.insert(Written.stored(10 * k)), 10 * k);
        }
        return shelf;
    }

    private static Shelf fullWith(byte[] document) {
        Shelf shelf = ofMany(16);
        shelf.type(document);
        return shelf;
    }

    /** "comes into the store, and is empty then. Answers its number" */
    private static void insertKeepsAndEmpties() {
        Shelf shelf = new Shelf();
        byte[] document = Written.document("{id:300, a:-2, abcd:'x~ ', b:{id:null}, c:[null,true]}");
        Check.due("insert", shelf.insert(document), 300);
        Check.due("the buffer is empty", shelf.size(), 0);
        Check.due("it has no first byte", shelf.at(0), -1);
        Check.due("insert of the empty buffer", shelf.insert(), -1);
        Check.due("count", shelf.count(), 1);
        shelf.put(0x01020304, 4);
        shelf.dueStored("the store does not change with the buffer", document);
    }

    /** "a document by itself without a type's byte" */
    private static void insertTakesNoType() {
        kept("without a type's byte", Written.document("{id:9, a:5}"), 9);
        refused("with a type's byte", Written.value("{id:9, a:5}"), -2);
        refused("a value that is no document", Written.value("5"), -1);
        refused("an empty array", Written.value("[]"), -3);
    }

    /** "-1 - p if it is faulty at the byte p" (each way to be faulty: FormTest) */
    private static void insertOfFaultyBytes() {
        refused("an empty buffer", new byte[0], -1);
        refused("the first byte", Written.bytes(9, 1, 'i', 'd', 0, 0, 9, 0), -1);
        refused("the second byte", Written.bytes(8, 7, 'i', 'd', 0, 0, 9, 0), -2);
        byte[] most = Written.storedOfSize(9, 80);
        refused("the byte 78 of 80", Written.with(most, 78, 7), -79);
        refused("behind 80 bytes", Written.with(most, 79, 6), -81);
    }

    /** "of at most 60 bytes each", "-1000 if it has more than 60 bytes" */
    private static void atMostSixtyBytes() {
        kept("59 bytes", Written.storedOfSize(9, 59), 9);
        kept("60 bytes", Written.storedOfSize(9, 60), 9);
        refused("61 bytes", Written.storedOfSize(9, 61), -1000);
        refused("62 bytes", Written.storedOfSize(9, 62), -1000);
        refused("80 bytes", Written.storedOfSize(9, 80), -1000);
    }

    /** "the first element of which", "not first" */
    private static void numberIsFirst() {
        kept("id first of two", Written.document("{id:9, a:null}"), 9);
        refused("id second", Written.document("{a:null, id:9}"), -1000);
        refused("id second, behind an INT", Written.document("{a:8, id:9}"), -1000);
        refused("id last of three", Written.document("{a:1, b:1, id:9}"), -1000);
        refused("no element", Written.bytes(2, 0), -1000);
        refused("no id", Written.document("{a:9}"), -1000);
        refused("id within the first", Written.document("{a:{id:9}}"), -1000);
        refused("id within an id", Written.document("{id:{id:9}}"), -1000);
    }

    /** "has the name id" */
    private static void numberHasTheNameId() {
        for (String name : new String[] {"i", "d", "di", "ie", "hd", "idd", "iid", "ida", "idid", "aaid"}) {
            refused("the name " + name, Written.document("{" + name + ":9}"), -1000);
        }
        kept("the name id", Written.document("{id:9}"), 9);
    }

    /** "and is an INT", "no INT" */
    private static void numberIsAnInt() {
        for (String value : new String[] {"'9'", "''", "{}", "[]", "[9]", "true", "false", "null"}) {
            refused("id is " + value, Written.document("{id:" + value + "}"), -1000);
        }
    }

    /** "an INT 0 .. 999" */
    private static void numberIsUpTo999() {
        for (int number : new int[] {0, 9, 255, 256, 998, 999}) {
            kept("the number " + number, Written.stored(number), number);
        }
        for (int number : new int[] {-1, -2, 1000, 1001, 32767, -32768, -256}) {
            refused("the number " + number, Written.stored(number), -1000);
        }
    }

    /** "not that of another one", "-1001 if that is used" */
    private static void numberIsNotAnothers() {
        for (int number = 1; number <= 4; number++) {
            refused("the number " + number + " again", Written.stored(number), -1001);
        }
        refused("another document by a used number", Written.document("{id:4, z:'q'}"), -1001);
        kept("the next number", Written.stored(5), 5);
        kept("the one before", Written.stored(0), 0);
        Shelf shelf = Shelf.busy();
        shelf.remove(4);
        Check.due("a number that is free again", shelf.insert(Written.document("{id:4, z:'q'}")), 4);
        Check.due("and used again", shelf.insert(Written.stored(4)), -1001);
        shelf.dueStored("the new one", "{id:4, z:'q'}");
        shelf = ofMany(2);
        shelf.insert(Written.stored(0));
        shelf.insert(Written.stored(999));
        Check.due("0 again", shelf.insert(Written.stored(0)), -1001);
        Check.due("999 again", shelf.insert(Written.stored(999)), -1001);
    }

    /** "THE STORE holds at most 16 DOCUMENTS", "-1002 if there are 16" */
    private static void atMostSixteen() {
        Shelf shelf = ofMany(15);
        Check.due("the sixteenth", shelf.insert(Written.stored(5)), 5);
        Check.due("count", shelf.count(), 16);
        Check.due("the seventeenth", shelf.insert(Written.stored(6)), -1002);
        Check.due("count stays", shelf.count(), 16);
        Refused.due("above all others", () -> fullWith(Written.stored(999)), Shelf::insert, -1002);
        Refused.due("below all others", () -> fullWith(Written.stored(0)), Shelf::insert, -1002);
        Refused.due("of 60 bytes", () -> fullWith(Written.storedOfSize(9, 60)), Shelf::insert, -1002);
        shelf.remove(150);
        Check.due("there is room again", shelf.insert(Written.stored(6)), 6);
        Check.due("and no more", shelf.insert(Written.stored(7)), -1002);
        fullOfTheLongest();
    }

    private static void fullOfTheLongest() {
        for (int k = 0; k < 16; k++) {
            Shelf shelf = new Shelf();
            for (int number = 15; number >= 0; number--) {
                Check.due("sixteen of 60 bytes", shelf.insert(Written.storedOfSize(number, 60)), number);
            }
            shelf.dueStored("each of them", Written.storedOfSize(k, 60));
        }
    }

    /** The refusals as they are written: "-1 - p ..; -1000 ..; -1001 ..; -1002 .." */
    private static void refusalsInOrder() {
        byte[] faulty = Written.with(Written.storedOfSize(10, 80), 50, 7);
        Refused.due("faulty, too long, used and full", () -> fullWith(faulty), Shelf::insert, -51);
        Refused.due("faulty, no number and full", () -> fullWith(Written.bytes(9, 6, 'a', 0, 0)), Shelf::insert, -1);
        Refused.due("faulty, used and full", () -> fullWith(Written.with(Written.stored(10), 0, 9)), Shelf::insert, -1);
        Refused.due("too long, used and full", () -> fullWith(Written.storedOfSize(10, 61)), Shelf::insert, -1000);
        Refused.due("too long and full", () -> fullWith(Written.storedOfSize(9, 61)), Shelf::insert, -1000);
        refused("too long and used", Written.storedOfSize(1, 61), -1000);
        Refused.due("no number and full", () -> fullWith(Written.document("{a:9}")), Shelf::insert, -1000);
        Refused.due("1000 and full", () -> fullWith(Written.stored(1000)), Shelf::insert, -1000);
        Refused.due("used and full", () -> fullWith(Written.stored(10)), Shelf::insert, -1001);
        Refused.due("full", () -> fullWith(Written.stored(9)), Shelf::insert, -1002);
    }

    /** "The buffer becomes the bytes of the document with that number: how many." */
    private static void fetchBringsTheBytes() {
        byte[] document = Written.document("{id:9, a:[255,'~']}");
        Shelf shelf = new Shelf();
        shelf.insert(document);
        for (int n : new int[] {0, 3, document.length, 80}) {
            shelf.type(new byte[n]);
            Check.due("fetch into " + n, shelf.fetch(9), document.length);
            Check.due("fetch into " + n + ": the buffer", shelf.buffer(), document);
            Check.due("fetch into " + n + ": behind it", shelf.at(document.length), -1);
        }
        shelf.set(6, 8);
        Check.due("what is fetched can be inserted", shelf.insert(), 8);
        shelf.dueStored("the first one stays", document);
        shelf.dueStored("the other one", "{id:8, a:[255,'~']}");
        shelf = new Shelf();
        shelf.insert(Written.storedOfSize(0, 60));
        shelf.insert(Written.stored(999));
        Check.due("fetch of 60", shelf.fetch(0), 60);
        Check.due("fetch of 8", shelf.fetch(999), 8);
        Check.due("size", shelf.size(), 8);
    }

    /** "-1, refused, if there is none." */
    private static void fetchOfNone() {
        for (int number : NO_NUMBERS) {
            Refused.due("fetch(" + number + ")", Shelf::busy, shelf -> shelf.fetch(number), -1);
            Refused.due("fetch(" + number + ") of a new one", Shelf::new, shelf -> shelf.fetch(number), -1);
        }
        Shelf shelf = Shelf.busy();
        Check.due("fetch of the last", shelf.fetch(4), 13);
        shelf.remove(4);
        Check.due("fetch of what went", shelf.fetch(4), -1);
        Check.due("the buffer stays", shelf.buffer(), Written.document("{id:4, a:'m'}"));
    }

    /** "The document with that number goes" */
    private static void removeTakesOne() {
        String[] all = {"{id:0, a:1}", "{id:1, b:[]}", "{id:2}", "{id:3, c:'xyz'}"};
        for (int gone = 0; gone < all.length; gone++) {
            Shelf shelf = Shelf.of(all[3], all[1], all[2], all[0]);
            Check.due("remove " + gone, shelf.remove(gone), true);
            Check.due("count", shelf.count(), 3);
            Check.due("fetch of what went", shelf.fetch(gone), -1);
            for (int number = 0; number < all.length; number++) {
                if (number != gone) {
                    shelf.dueStored("the others stay", all[number]);
                }
            }
        }
        Shelf shelf = ofMany(16);
        for (int k = 16; k >= 1; k--) {
            Check.due("remove of the last one", shelf.remove(10 * k), true);
            Check.due("how many are left", shelf.count(), k - 1);
        }
        Check.due("find of none", shelf.find(), 0);
    }

    /** "The document with that number goes" (and one that comes later takes the place of no other) */
    private static void removeLeavesRoomForAnother() {
        String[] all = {"{id:10, a:1}", "{id:20, b:[]}", "{id:30}", "{id:40, c:'xyz'}"};
        for (int gone = 0; gone < all.length; gone++) {
            for (int number : new int[] {5, 10 * gone + 10, 25, 45}) {
                Shelf shelf = Shelf.of(all);
                Check.due("remove", shelf.remove(10 * gone + 10), true);
                String other = "{id:" + number + ", d:true}";
                Check.due("insert of " + number, shelf.insert(Written.document(other)), number);
                shelf.dueStored("the new one", other);
                for (int k = 0; k < all.length; k++) {
                    if (k != gone) {
                        shelf.dueStored("the others stay", all[k]);
                    }
                }
                Check.due("count", shelf.count(), 4);
            }
        }
    }

    /** "false if there is none" */
    private static void removeOfNone() {
        for (int number : NO_NUMBERS) {
            Refused.dueFalse("remove(" + number + ")", Shelf::busy, shelf -> shelf.remove(number));
            Refused.dueFalse("remove(" + number + ") of a new one", Shelf::new, shelf -> shelf.remove(number));
        }
        Refused.dueFalse("remove of what went", () -> {
            Shelf shelf = Shelf.busy();
            Check.due("remove", shelf.remove(2), true);
            return shelf;
        }, shelf -> shelf.remove(2));
    }

    /** "How many documents there are." */
    private static void countTellsHowMany() {
        Shelf shelf = new Shelf();
        Check.due("count of none", shelf.count(), 0);
        for (int k = 1; k <= 16; k++) {
            shelf.insert(Written.stored(500 - 20 * k));
            Check.due("count", shelf.count(), k);
        }
        shelf.insert(Written.stored(1));
        Check.due("count behind a refused insert", shelf.count(), 16);
        shelf.remove(1);
        Check.due("count behind a refused remove", shelf.count(), 16);
        shelf.remove(480);
        Check.due("count behind a remove", shelf.count(), 15);
        shelf.fetch(460);
        Check.due("count behind a fetch", shelf.count(), 15);
        shelf.change("a", Shelf.SET, "1");
        Check.due("count behind a change", shelf.count(), 15);
    }
}
