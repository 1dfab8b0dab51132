/** Promises 14 and 15, where and anywhere, and with them what each form of a condition means. */
final class ConditionTest {
    public static void main(String[] args) {
        where();
        anywhere();
        pathIsKept();
        equal();
        equalToNull();
        compared();
        there();
        size();
        throughArrays();
        Check.end();
    }

    private static void where() {
        PathShelf shelf = new PathShelf();
        Check.due("an empty buffer is told before all", shelf.where(9), -1);
        Check.type(shelf, Check.integer(1));
        Check.due("no path", shelf.where(0), -1000);
        Check.go(shelf, "a");
        Check.due("form 8", shelf.where(8), -1000);
        Check.due("form -1", shelf.where(-1), -1000);
        Check.due("the buffer stays", Check.buffer(shelf), Check.integer(1));
        Check.due("condition 0", shelf.where(0), 0);
        Check.due("the buffer is empty", shelf.size(), 0);
        Check.due("condition 1", Check.where(shelf, "a", 7, Check.nothing()), 1);
        Check.due("condition 2", Check.where(shelf, "a", 6, Check.document()), 2);
        Check.due("a fourth one", Check.where(shelf, "a", 6, Check.document()), -1000);
        Check.due("a faulty fourth one", Check.where(shelf, "a", 6, Check.bytes(3, 3, 0)), -2);
        Check.due("the type 0", Check.where(shelf, "a", 6, Check.bytes(0)), -1);
        Check.due("the type 7", Check.where(shelf, "a", 6, Check.bytes(7)), -1);
        Check.due("a byte behind", Check.where(shelf, "a", 6, Check.bytes(6, 6)), -2);
        Check.due("half a number", Check.where(shelf, "a", 6, Check.bytes(1, 6)), -3);
        Check.due("conditions", shelf.anywhere(), 3);
        byte[] four = Check.array(Check.array(Check.array(Check.array(Check.nothing()))));
        Check.due("an operand of the depth 4", Check.where(shelf, "a", 0, four), 0);
        Check.due("an operand of the depth 5", Check.where(shelf, "a", 0, Check.array(four)), -9);
        byte[][] items = new byte[77][];
        java.util.Arrays.fill(items, Check.nothing());
        Check.due("an operand of 80 bytes", Check.where(shelf, "a", 0, Check.array(items)), 1);
        Check.due("a name within an operand twice", Check.where(shelf, "a", 0,
            Check.document(Check.element("a", Check.nothing()), Check.element("a", Check.nothing()))), -7);
    }

    private static void anywhere() {
        PathShelf shelf = Check.shelfOf(Check.stored(1), Check.stored(2));
        Check.where(shelf, "id", Check.EQUAL, Check.integer(1));
        Check.where(shelf, "id", Check.EQUAL, Check.integer(2));
        Check.dueFound("both", shelf);
        Check.due("anywhere", shelf.anywhere(), 2);
        Check.due("anywhere again", shelf.anywhere(), 0);
        Check.dueFound("no condition", shelf, 1, 2);
        Check.due("numbered from 0 again", Check.where(shelf, "id", Check.MORE, Check.integer(1)), 0);
        Check.dueFound("only the new one", shelf, 2);
    }

    private static void pathIsKept() {
        PathShelf shelf = Check.shelfOf(Check.stored(1), Check.stored(2));
        Check.where(shelf, "id", Check.EQUAL, Check.integer(1));
        Check.go(shelf, "a.b");
        Check.type(shelf, Check.integer(2));
        Check.dueFound("path and the buffer change a condition no more", shelf, 1);
    }

    private static void holds(String what, byte[] value, int form, byte[] operand, boolean want) {
        byte[] document = value == null ? Check.stored(1) : Check.stored(1, Check.element("a", value));
        PathShelf shelf = Check.shelfOf(document);
        Check.where(shelf, "a", form, operand);
        Check.due(what, shelf.find(), want ? 1 : 0);
    }

    private static void equals(String what, byte[] value, byte[] operand, boolean want) {
        holds(what + ", equal", value, Check.EQUAL, operand, want);
        holds(what + ", different", value, Check.DIFFERENT, operand, !want);
    }

    private static void equal() {
        equals("same INT", Check.integer(258), Check.integer(258), true);
        equals("other INT", Check.integer(258), Check.integer(259), false);
        equals("other INT, higher byte", Check.integer(258), Check.integer(2), false);
        equals("INT and BOOL", Check.integer(1), Check.bool(true), false);
        equals("same TEXT", Check.text("ab"), Check.text("ab"), true);
        equals("beginning", Check.text("ab"), Check.text("a"), false);
        equals("longer", Check.text("ab"), Check.text("abc"), false);
        equals("empty TEXT and NULL", Check.text(""), Check.nothing(), false);
        equals("same BOOL", Check.bool(false), Check.bool(false), true);
        equals("other BOOL", Check.bool(false), Check.bool(true), false);
        equals("no value", null, Check.integer(0), false);
        byte[] one = Check.element("x", Check.integer(1));
        byte[] two = Check.element("y", Check.integer(2));
        equals("same DOCUMENT", Check.document(one, two), Check.document(one, two), true);
        equals("another order", Check.document(one, two), Check.document(two, one), false);
        equals("fewer elements", Check.document(one, two), Check.document(one), false);
        equals("other names", Check.document(one), Check.document(Check.element("y", Check.integer(1))), false);
        equals("empty DOCUMENT and ARRAY", Check.document(), Check.array(), false);
        byte[] array = Check.array(Check.integer(1), Check.array(Check.integer(2)), Check.document(one));
        equals("the ARRAY itself", array, array, true);
        equals("an item", array, Check.integer(1), true);
        equals("an item that is an ARRAY", array, Check.array(Check.integer(2)), true);
        equals("an item that is a DOCUMENT", array, Check.document(one), true);
        equals("an item of an item", array, Check.integer(2), false);
        equals("another order of items", Check.array(Check.integer(1), Check.integer(2)),
            Check.array(Check.integer(2), Check.integer(1)), false);
        equals("fewer items", Check.array(Check.integer(1), Check.integer(2)), Check.array(Check.integer(1)), false);
    }

    private static void equalToNull() {
        equals("NULL", Check.nothing(), Check.nothing(), true);
        equals("no value and NULL", null, Check.nothing(), true);
        equals("INT and NULL", Check.integer(0), Check.nothing(), false);
        equals("an empty ARRAY and NULL", Check.array(), Check.nothing(), false);
        equals("an ARRAY with NULL", Check.array(Check.integer(1), Check.nothing()), Check.nothing(), true);
    }

    private static void compares(byte[] value, byte[] operand, boolean less, boolean same, boolean more) {
        String what = Check.text(value) + " and " + Check.text(operand);
        holds(what + ", less", value, Check.LESS, operand, less);
        holds(what + ", at most", value, Check.AT_MOST, operand, less || same);
        holds(what + ", more", value, Check.MORE, operand, more);
        holds(what + ", at least", value, Check.AT_LEAST, operand, more || same);
    }

    private static void compared() {
        compares(Check.integer(1), Check.integer(2), true, false, false);
        compares(Check.integer(2), Check.integer(2), false, true, false);
        compares(Check.integer(256), Check.integer(255), false, false, true);
        compares(Check.integer(-1), Check.integer(0), true, false, false);
        compares(Check.integer(-32768), Check.integer(32767), true, false, false);
        compares(Check.integer(32767), Check.integer(-32768), false, false, true);
        compares(Check.text("a"), Check.text("b"), true, false, false);
        compares(Check.text("b"), Check.text("ab"), false, false, true);
        compares(Check.text("ab"), Check.text("abc"), true, false, false);
        compares(Check.text("abc"), Check.text("ab"), false, false, true);
        compares(Check.text(""), Check.text(" "), true, false, false);
        compares(Check.text(""), Check.text(""), false, true, false);
        compares(Check.text("Z"), Check.text("a"), true, false, false);
        compares(Check.integer(1), Check.text("2"), false, false, false);
        compares(Check.text("1"), Check.integer(2), false, false, false);
        compares(Check.bool(false), Check.bool(true), false, false, false);
        compares(Check.bool(true), Check.bool(true), false, false, false);
        compares(Check.nothing(), Check.nothing(), false, false, false);
        compares(Check.array(), Check.array(), false, false, false);
        compares(Check.document(), Check.document(), false, false, false);
        compares(Check.array(Check.integer(1), Check.integer(5)), Check.integer(3), true, false, true);
        compares(Check.array(Check.array(Check.integer(1))), Check.integer(3), false, false, false);
        holds("no value is less", null, Check.LESS, Check.integer(3), false);
    }

    private static void there() {
        for (byte[] operand : new byte[][] {Check.bool(true), Check.integer(0), Check.nothing(), Check.text("")}) {
            holds("there", Check.nothing(), Check.THERE, operand, true);
            holds("not there", null, Check.THERE, operand, false);
        }
        holds("there, BOOL 0", Check.nothing(), Check.THERE, Check.bool(false), false);
        holds("not there, BOOL 0", null, Check.THERE, Check.bool(false), true);
        holds("an empty array is there", Check.array(), Check.THERE, Check.bool(true), true);
    }

    private static void size() {
        byte[] two = Check.array(Check.array(Check.nothing()), Check.integer(5));
        holds("two items", two, Check.SIZE, Check.integer(2), true);
        holds("an item is not looked at", two, Check.SIZE, Check.integer(1), false);
        holds("all that is within is not counted", two, Check.SIZE, Check.integer(3), false);
        holds("no item", Check.array(), Check.SIZE, Check.integer(0), true);
        holds("no array", Check.document(), Check.SIZE, Check.integer(0), false);
        holds("no value", null, Check.SIZE, Check.integer(0), false);
        holds("below 0", Check.array(), Check.SIZE, Check.integer(-1), false);
        holds("an operand that is no INT", Check.array(), Check.SIZE, Check.bool(false), false);
        holds("an operand of two characters", two, Check.SIZE, Check.text("ab"), false);
    }

    private static void throughArrays() {
        byte[] one = Check.document(Check.element("b", Check.integer(1)));
        byte[] list = Check.document(Check.element("b", Check.array(Check.integer(2), Check.integer(3))));
        byte[] deep = Check.array(Check.document(Check.element("b", Check.integer(9))));
        PathShelf shelf = Check.shelfOf(
            Check.stored(1, Check.element("a", Check.array(one, Check.integer(7), list, deep))),
            Check.stored(2, Check.element("a", Check.document(Check.element("b", Check.array(one))))),
            Check.stored(3, Check.element("b", Check.integer(1))));
        dueFor(shelf, "a.b", Check.EQUAL, Check.integer(1), 1);
        dueFor(shelf, "a.b", Check.EQUAL, Check.integer(3), 1);
        dueFor(shelf, "a.b", Check.EQUAL, Check.integer(9));
        dueFor(shelf, "a.b", Check.EQUAL, Check.integer(7));
        dueFor(shelf, "a.b", Check.SIZE, Check.integer(2), 1);
        dueFor(shelf, "a.b", Check.SIZE, Check.integer(1), 2);
        dueFor(shelf, "a.b", Check.EQUAL, one, 2);
        dueFor(shelf, "a.b.b", Check.EQUAL, Check.integer(1), 2);
        dueFor(shelf, "a.b.b", Check.THERE, Check.bool(false), 1, 3);
        dueFor(shelf, "a.b", Check.THERE, Check.bool(false), 3);
        dueFor(shelf, "b", Check.THERE, Check.bool(true), 3);
        dueFor(shelf, "a.b", Check.EQUAL, Check.nothing(), 3);
        dueFor(shelf, "id.b", Check.THERE, Check.bool(true));
    }

    private static void dueFor(PathShelf shelf, String path, int form, byte[] operand, int... numbers) {
        shelf.anywhere();
        Check.where(shelf, path, form, operand);
        Check.dueFound(path + " form " + form + " " + Check.text(operand), shelf, numbers);
    }
}
