/** Promises 1 to 6: a new object, put, set, cut, size, at. Above each test stands the sentence that it tests. */
final class BufferTest {
    public static void main(String[] args) {
        newObjectHoldsNothing();
        newObjectHasNothingTyped();
        newObjectSharesNothing();
        putAppendsTheLowestBytes();
        putTakesOneToFour();
        putStopsAtEighty();
        setChangesOneByte();
        setNeedsTheByte();
        setTakesABytesValue();
        cutLeavesTheFirst();
        cutNeedsSoMany();
        cutIsNotBelowZero();
        sizeTellsHowMany();
        atTellsAByte();
        atNeedsTheByte();
        Check.end();
    }

    private static Shelf withBytes(int n) {
        Shelf shelf = new Shelf();
        for (int k = 0; k < n; k++) {
            shelf.put(k + 100, 1);
        }
        return shelf;
    }

    /** "No documents, indexes, conditions; an empty buffer" */
    private static void newObjectHoldsNothing() {
        Shelf shelf = new Shelf();
        Check.due("new: count", shelf.count(), 0);
        Check.due("new: entries(0)", shelf.entries(0), -1);
        Check.due("new: entries(1)", shelf.entries(1), -1);
        Check.due("new: size", shelf.size(), 0);
        Check.due("new: at(0)", shelf.at(0), -1);
        Check.due("new: examined", shelf.examined(), 0);
        Check.due("new: found(0)", shelf.found(0), -1);
        Check.due("new: fetch(0)", shelf.fetch(0), -1);
        Check.due("new: remove(0)", shelf.remove(0), false);
        Check.due("new: insert of an empty buffer", shelf.insert(), -1);
        Check.due("new: find", shelf.find(), 0);
        Check.due("new: examined by that", shelf.examined(), 0);
        Check.due("new: anywhere", shelf.anywhere(), 0);
    }

    /** "nothing typed" */
    private static void newObjectHasNothingTyped() {
        Shelf shelf = new Shelf();
        Check.due("new: step", shelf.step('a', 1), false);
        Check.due("new: index(0)", shelf.index(0), false);
        Check.due("new: index(1)", shelf.index(1), false);
        shelf.put(6, 1);
        Check.due("new: where", shelf.where(Shelf.EQUAL), -1000);
        Check.due("new: change", shelf.change(Shelf.SET), -1000);
        Check.due("new: change by UNSET", shelf.change(Shelf.UNSET), -1000);
        Check.due("new: path", shelf.path('a', 1), true);
        Check.due("then index(0)", shelf.index(0), true);
    }

    private static void newObjectSharesNothing() {
        Shelf.busy();
        newObjectHoldsNothing();
        newObjectHasNothingTyped();
    }

    /** "Appends the n lowest bytes of word to the buffer, the highest of them first" */
    private static void putAppendsTheLowestBytes() {
        Shelf shelf = new Shelf();
        Check.due("put 4", shelf.put(0x81020384, 4), true);
        Check.due("put 3", shelf.put(0x05060708, 3), true);
        Check.due("put 2", shelf.put(0x090a0bff, 2), true);
        Check.due("put 1", shelf.put(0xffffff00, 1), true);
        Check.due("put 4 of -1", shelf.put(-1, 4), true);
        Check.due("put 4 of MIN", shelf.put(Integer.MIN_VALUE, 4), true);
        byte[] want = Written.bytes(0x81, 2, 3, 0x84, 6, 7, 8, 0x0b, 0xff, 0, 255, 255, 255, 255, 128, 0, 0, 0);
        Check.due("the buffer", shelf.buffer(), want);
    }

    /** "false, refused, if n is not 1 .. 4" */
    private static void putTakesOneToFour() {
        for (int n = 1; n <= 4; n++) {
            Shelf shelf = new Shelf();
            Check.due("put of " + n, shelf.put(0x01020304, n), true);
            Check.due("put of " + n + ": size", shelf.size(), n);
        }
        for (int n : new int[] {0, 5, -1, -4, 8, 80, Integer.MIN_VALUE, Integer.MAX_VALUE, Integer.MIN_VALUE + 1}) {
            Refused.dueFalse("put of " + n, Shelf::busy, shelf -> shelf.put(0x01020304, n));
            Refused.dueFalse("put of " + n + " to none", Shelf::new, shelf -> shelf.put(0x01020304, n));
            Refused.dueFalse("put of " + n + " to 80", () -> withBytes(80), shelf -> shelf.put(0x01020304, n));
        }
    }

    /** "or more than 80 would be there" */
    private static void putStopsAtEighty() {
        for (int n = 1; n <= 4; n++) {
            int many = n;
            Shelf shelf = withBytes(80 - n);
            Check.due("put of " + n + " up to 80", shelf.put(0x01020304, n), true);
            Check.due("put of " + n + " up to 80: size", shelf.size(), 80);
            Check.due("put of " + n + " up to 80: the last byte", shelf.at(79), 4);
            Check.due("put of " + n + " up to 80: the first of them", shelf.at(80 - n), 5 - n);
            for (int before = 81 - n; before <= 80; before++) {
                int there = before;
                Refused.dueFalse("put of " + n + " to " + before, () -> withBytes(there), each -> each.put(0x01020304, many));
            }
        }
        Shelf shelf = withBytes(80);
        shelf.cut(79);
        Check.due("there is room again", shelf.put(7, 1), true);
        Check.due("and no more", shelf.put(7, 1), false);
    }

    /** "Byte p of the buffer becomes b" */
    private static void setChangesOneByte() {
        Shelf shelf = withBytes(4);
        Check.due("set(2, 9)", shelf.set(2, 9), true);
        Check.due("the others stay", shelf.buffer(), Written.bytes(100, 101, 9, 103));
    }

    /** "false if there is none" */
    private static void setNeedsTheByte() {
        for (int size : new int[] {0, 1, 3, 79, 80}) {
            for (int p : new int[] {-1, size, size + 1, 80, 81, Integer.MIN_VALUE, Integer.MAX_VALUE}) {
                Refused.dueFalse("set(" + p + ", 1) of " + size, () -> withBytes(size), shelf -> shelf.set(p, 1));
            }
            if (size > 0) {
                Shelf shelf = withBytes(size);
                Check.due("set of the last of " + size, shelf.set(size - 1, 1), true);
                Check.due("the last of " + size, shelf.at(size - 1), 1);
                Check.due("set of the first of " + size, shelf.set(0, 2), true);
                Check.due("the first of " + size, shelf.at(0), 2);
                Check.due("size stays " + size, shelf.size(), size);
            }
        }
        Shelf shelf = withBytes(4);
        shelf.cut(3);
        Check.due("set of a byte that was cut off", shelf.set(3, 1), false);
    }

    /** "or b is not 0 .. 255" */
    private static void setTakesABytesValue() {
        for (int b : new int[] {0, 1, 127, 128, 254, 255}) {
            Shelf shelf = withBytes(3);
            Check.due("set(1, " + b + ")", shelf.set(1, b), true);
            Check.due("set(1, " + b + "): at", shelf.at(1), b);
        }
        for (int b : new int[] {-1, 256, -128, 257, 511, Integer.MIN_VALUE, Integer.MAX_VALUE}) {
            Refused.dueFalse("set(1, " + b + ")", Shelf::busy, shelf -> shelf.set(1, b));
        }
    }

    /** "Only the first n bytes of the buffer are left" */
    private static void cutLeavesTheFirst() {
        Shelf shelf = withBytes(4);
        Check.due("cut(2)", shelf.cut(2), true);
        Check.due("the first 2", shelf.buffer(), Written.bytes(100, 101));
        Check.due("a byte that was cut off", shelf.at(2), -1);
        shelf.put(9, 1);
        Check.due("what comes stands behind what is left", shelf.buffer(), Written.bytes(100, 101, 9));
        Check.due("and no byte that was cut off comes back", shelf.at(3), -1);
    }

    /** "false if there are not so many" */
    private static void cutNeedsSoMany() {
        for (int size : new int[] {0, 1, 4, 79, 80}) {
            Shelf shelf = withBytes(size);
            Check.due("cut(" + size + ") of as many", shelf.cut(size), true);
            Check.due("all of " + size + " are left", shelf.buffer(), withBytes(size).buffer());
            for (int n : new int[] {size + 1, 81, Integer.MAX_VALUE}) {
                Refused.dueFalse("cut(" + n + ") of " + size, () -> withBytes(size), each -> each.cut(n));
            }
        }
        Refused.dueFalse("cut(4) of 3", Shelf::busy, shelf -> shelf.cut(4));
    }

    /** "or n is below 0" */
    private static void cutIsNotBelowZero() {
        for (int size : new int[] {0, 1, 80}) {
            Shelf shelf = withBytes(size);
            Check.due("cut(0) of " + size, shelf.cut(0), true);
            Check.due("none of " + size + " is left", shelf.size(), 0);
            Check.due("the first of " + size + " is none", shelf.at(0), -1);
            Refused.dueFalse("cut(-1) of " + size, () -> withBytes(size), each -> each.cut(-1));
            Refused.dueFalse("cut(MIN) of " + size, () -> withBytes(size), each -> each.cut(Integer.MIN_VALUE));
        }
        Refused.dueFalse("cut(-1)", Shelf::busy, shelf -> shelf.cut(-1));
    }

    /** "The number of bytes of the buffer." */
    private static void sizeTellsHowMany() {
        Shelf shelf = new Shelf();
        Check.due("size of none", shelf.size(), 0);
        for (int n = 1; n <= 80; n++) {
            shelf.put(0, 1);
            Check.due("size", shelf.size(), n);
        }
        shelf.put(0, 1);
        Check.due("size behind a refused put", shelf.size(), 80);
    }

    /** "Byte p of the buffer" */
    private static void atTellsAByte() {
        for (int b = 0; b < 256; b++) {
            Shelf shelf = withBytes(1);
            shelf.set(0, b);
            Check.due("at(0), not below 0", shelf.at(0), b);
        }
    }

    /** "-1 if there is none" */
    private static void atNeedsTheByte() {
        for (int size : new int[] {0, 1, 79, 80}) {
            for (int p : new int[] {-1, size, size + 1, 80, 81, Integer.MIN_VALUE, Integer.MAX_VALUE}) {
                Refused.due("at(" + p + ") of " + size, () -> withBytes(size), shelf -> shelf.at(p), -1);
            }
            if (size > 0) {
                Check.due("the first of " + size, withBytes(size).at(0), 100);
                Check.due("the last of " + size, withBytes(size).at(size - 1), 99 + size);
            }
        }
    }
}
