/** Promise 9, insert, and with it how bytes are read and where they are faulty. */
final class InsertTest {
    public static void main(String[] args) {
        ordinary();
        numbers();
        tooLong();
        usedAndFull();
        missingBytes();
        types();
        names();
        sameNames();
        wrongLengths();
        depth();
        texts();
        Check.end();
    }

    /** The answer, and that a refused call leaves the buffer and the store. */
    private static void due(String what, byte[] document, int want) {
        PathShelf shelf = new PathShelf();
        int got = Check.insert(shelf, document);
        Check.due(what + ": " + Check.text(document), got, want);
        Check.due(what + ": count", shelf.count(), want >= 0 ? 1 : 0);
        Check.due(what + ": buffer", Check.buffer(shelf), want >= 0 ? new byte[0] : document);
    }

    /** A document with the number 1, the element's bytes as they are, and T right. */
    private static byte[] with(int... element) {
        return Check.stored(1, Check.bytes(element));
    }

    private static void ordinary() {
        due("only a number", Check.stored(1), 1);
        byte[] inner = Check.document(Check.element("id", Check.nothing()), Check.element("a", Check.array()));
        due("all types", Check.stored(300, Check.element("a", Check.integer(-2)), Check.element("abcd", Check.text("x~ ")),
            Check.element("b", inner), Check.element("c", Check.array(Check.nothing(), Check.bool(true), Check.integer(9))),
            Check.element("d", Check.bool(false)), Check.element("e", Check.nothing())), 300);
    }

    private static void numbers() {
        due("number 0", Check.stored(0), 0);
        due("number 999", Check.stored(999), 999);
        due("number 1000", Check.stored(1000), -1000);
        due("number -1", Check.stored(-1), -1000);
        due("no element", Check.bytes(2, 0), -1000);
        byte[] number = Check.element("id", Check.integer(4));
        due("id not first", Check.behindType(Check.document(Check.element("a", Check.nothing()), number)), -1000);
        due("id a text", Check.behindType(Check.document(Check.element("id", Check.text("4")))), -1000);
        due("id null", Check.behindType(Check.document(Check.element("id", Check.nothing()))), -1000);
        due("another name", Check.behindType(Check.document(Check.element("idx", Check.integer(4)))), -1000);
        due("id within the first", Check.behindType(Check.document(Check.element("a", Check.document(number)))), -1000);
    }

    private static byte[] ofSize(int size) {
        // 8 bytes are the document with its number, 5 the array's frame, and every NULL takes one.
        byte[][] items = new byte[size - 13][];
        java.util.Arrays.fill(items, Check.nothing());
        return Check.stored(7, Check.element("a", Check.array(items)));
    }

    private static void tooLong() {
        due("60 bytes", ofSize(60), 7);
        due("61 bytes", ofSize(61), -1000);
        due("80 bytes", ofSize(80), -1000);
        byte[] faulty = ofSize(80);
        faulty[70] = 9;
        due("80 bytes and faulty", faulty, -71);
        faulty = ofSize(80);
        faulty[79] = 6;
        due("80 bytes and one is missing", faulty, -81);
    }

    private static void usedAndFull() {
        PathShelf shelf = new PathShelf();
        for (int k = 0; k < 16; k++) {
            Check.due("insert " + k, Check.insert(shelf, Check.stored(50 - 3 * k)), 50 - 3 * k);
        }
        Check.due("count", shelf.count(), 16);
        Check.due("used is told before full", Check.insert(shelf, Check.stored(50)), -1001);
        Check.due("full", Check.insert(shelf, Check.stored(51)), -1002);
        Check.due("no number is told before full", Check.insert(shelf, Check.stored(1000)), -1000);
        Check.due("faulty is told before full", Check.insert(shelf, Check.bytes(0)), -2);
        Check.due("the buffer stays", shelf.size(), 1);
        Check.due("count stays", shelf.count(), 16);
        shelf.remove(50);
        Check.due("there is room again", Check.insert(shelf, Check.stored(50)), 50);
    }

    private static void missingBytes() {
        byte[] whole = Check.stored(5, Check.element("a", Check.text("xy")), Check.element("b", Check.array(Check.bool(true))));
        for (int n = 0; n < whole.length; n++) {
            due("the first " + n, java.util.Arrays.copyOf(whole, n), -1 - n);
        }
        due("whole", whole, 5);
        due("one byte more", Check.join(whole, Check.bytes(0)), -1 - whole.length);
        due("more bytes more", Check.join(whole, whole), -1 - whole.length);
    }

    private static void types() {
        for (int type = 7; type < 256; type += 31) {
            due("an element's type " + type, with(type, 'a', 0), -8);
            due("an item's type " + type, with(4, 'a', 0, 3, type, 0), -12);
        }
        due("BOOL 2", with(5, 'a', 0, 2), -11);
        due("BOOL 255", with(5, 'a', 0, 255), -11);
        due("BOOL 1", with(5, 'a', 0, 1), 1);
    }

    private static void names() {
        due("no letter", with(6, 0), -9);
        due("four letters", with(6, 'a', 'b', 'c', 'd', 0), 1);
        due("five letters", with(6, 'a', 'b', 'c', 'd', 'e', 0), -13);
        due("a capital letter", with(6, 'A', 0), -9);
        due("a digit at the second place", with(6, 'a', '1', 0), -10);
        due("below a", with(6, 'a', 'b', '`', 0), -11);
        due("above z", with(6, 'a', 'b', 'c', '{', 0), -12);
        due("a to z", with(6, 'a', 'z', 0), 1);
    }

    private static void sameNames() {
        due("id twice", with(6, 'i', 'd', 0), -9);
        due("a twice", with(6, 'a', 0, 6, 'b', 0, 6, 'a', 0), -15);
        due("the name is told before the value", with(6, 'a', 0, 5, 'a', 0, 7), -12);
        due("the type is told before the name", with(6, 'a', 0, 7, 'a', 0, 7), -11);
        due("a beginning is another name", with(6, 'a', 'b', 0, 6, 'a', 0), 1);
        due("a longer one is another name", with(6, 'a', 0, 6, 'a', 'b', 0), 1);
        due("the same name deeper", with(3, 'a', 0, 5, 6, 'a', 0, 0), 1);
        due("twice deeper", with(3, 'a', 0, 8, 6, 'a', 0, 6, 'a', 0, 0), -16);
        due("in two items", with(4, 'a', 0, 14, 3, 5, 6, 'b', 0, 0, 3, 5, 6, 'b', 0, 0, 0), 1);
        due("a name from within a document before", with(3, 'a', 0, 5, 6, 'b', 0, 0, 6, 'b', 0), 1);
        due("a name from before the one that is open", with(6, 'b', 0, 3, 'a', 0, 5, 6, 'b', 0, 0), 1);
    }

    private static void wrongLengths() {
        byte[] whole = Check.stored(1, Check.element("a", Check.document(Check.element("b", Check.array()))));
        int outer = 0;
        int middle = 10;
        int inner = 14;
        for (int wrong : new int[] {0, 1, 3, 100, 255}) {
            byte[] one = whole.clone();
            one[outer] = (byte) wrong;
            due("T of the whole " + wrong, one, -1);
            one[middle] = (byte) wrong;
            due("T within is told first " + wrong, one, -1 - middle);
            one[inner] = (byte) wrong;
            due("the innermost T is told first " + wrong, one, -1 - inner);
        }
        byte[] late = with(4, 'a', 0, 9, 0, 7);
        due("a wrong T is told before what is behind its value", late, -11);
        byte[] early = with(4, 'a', 0, 9, 7, 0);
        due("what is faulty within is told before T", early, -12);
        due("a wrong T is told before a byte behind the whole", Check.bytes(3, 0, 0), -1);
        due("a missing byte is told, not the T", Check.bytes(3), -2);
    }

    private static void depth() {
        byte[] four = Check.array(Check.integer(3));
        byte[] three = Check.document(Check.element("a", four));
        byte[] two = Check.array(three);
        due("the depth 4, with a number within", Check.stored(1, Check.element("a", two)), 1);
        byte[] five = Check.array(Check.array());
        three = Check.document(Check.element("a", five));
        due("an array at the depth 5", Check.stored(1, Check.element("a", Check.array(three))), -18);
        five = Check.array(Check.document());
        three = Check.document(Check.element("a", five));
        due("a document at the depth 5", Check.stored(1, Check.element("a", Check.array(three))), -18);
        due("an array in a document at the depth 5", Check.stored(1, Check.element("a", Check.array(Check.array(
            Check.document(Check.element("a", Check.array())))))), -16);
        due("side by side is not deeper", Check.stored(1, Check.element("a", Check.array(Check.array(Check.array(),
            Check.array(), Check.document())))), 1);
    }

    private static void texts() {
        due("no character", with(2, 'a', 0, 0), 1);
        due("8 characters", Check.stored(1, Check.element("a", Check.text("12345678"))), 1);
        due("9 characters", Check.stored(1, Check.element("a", Check.text("123456789"))), -11);
        due("255 characters", with(2, 'a', 0, 255), -11);
        due("the character 31", with(2, 'a', 0, 2, 65, 31), -13);
        due("the character 127", with(2, 'a', 0, 2, 127, 65), -12);
        due("the characters 32 and 126", with(2, 'a', 0, 2, 32, 126), 1);
    }
}
