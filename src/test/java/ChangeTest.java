/** Promise 19: change, with each operator. */
final class ChangeTest {
    public static void main(String[] args) {
        refused();
        onlyWhatMatches();
        set();
        unset();
        add();
        push();
        pull();
        documentsOnTheWay();
        wayIsBarred();
        tooLong();
        tooDeep();
        Check.end();
    }

    private static void refused() {
        PathShelf shelf = Check.shelfOf(Check.stored(1));
        Check.due("an empty buffer is told before all", shelf.change(9), -1);
        Check.type(shelf, Check.nothing());
        Check.due("no path", shelf.change(Check.SET), -1000);
        Check.due("no path for UNSET", shelf.change(Check.UNSET), -1000);
        Check.go(shelf, "a");
        Check.due("operator 5", shelf.change(5), -1000);
        Check.due("operator -1", shelf.change(-1), -1000);
        Check.due("the buffer stays", Check.buffer(shelf), Check.nothing());
        Check.due("faulty", Check.change(shelf, "a", Check.PUSH, Check.bytes(1, 2, 3, 4)), -4);
        Check.due("faulty is told before id", Check.change(shelf, "id", Check.SET, Check.bytes(7)), -1);
        for (int operator = Check.SET; operator <= Check.PULL; operator++) {
            Check.due("id alone", Check.change(shelf, "id", operator, Check.integer(2)), -1000);
        }
        Check.due("the buffer stays", Check.buffer(shelf), Check.integer(2));
        Check.dueStored("nothing changes", shelf, Check.stored(1));
        Check.due("id on the way is no document", Check.change(shelf, "id.a", Check.SET, Check.integer(2)), 0);
        Check.due("the buffer is empty though it failed", shelf.size(), 0);
        Check.due("id at the end", Check.change(shelf, "a.id", Check.SET, Check.integer(2)), 1);
        Check.due("UNSET does not look at the buffer", Check.change(shelf, "a", Check.UNSET, Check.bytes(9, 9)), 1);
        Check.due("and empties it", shelf.size(), 0);
        Check.dueStored("the element went", shelf, Check.stored(1));
    }

    private static void onlyWhatMatches() {
        PathShelf shelf = Check.shelfOf(Check.stored(1), Check.stored(2, Check.element("a", Check.text("x"))), Check.stored(3));
        Check.where(shelf, "id", Check.MORE, Check.integer(1));
        Check.due("one fails", Check.change(shelf, "a", Check.ADD, Check.integer(4)), 1);
        Check.dueStored("no match", shelf, Check.stored(1));
        Check.dueStored("failed", shelf, Check.stored(2, Check.element("a", Check.text("x"))));
        Check.dueStored("done", shelf, Check.stored(3, Check.element("a", Check.integer(4))));
        Check.due("change kept nothing as found", shelf.found(0), -1);
        shelf.anywhere();
        Check.where(shelf, "a", Check.EQUAL, Check.integer(4));
        Check.due("a document that matches no more behind it", Check.change(shelf, "a", Check.SET, Check.nothing()), 1);
        Check.dueStored("done once", shelf, Check.stored(3, Check.element("a", Check.nothing())));
        Check.due("none matches", Check.change(shelf, "a", Check.SET, Check.nothing()), 0);
    }

    private static void dueChange(String what, int operator, byte[] operand, byte[] value, byte[] want) {
        byte[] other = Check.element("z", Check.integer(1));
        byte[] before = value == null ? Check.stored(1, other) : Check.stored(1, Check.element("a", value), other);
        byte[] changed = want;
        if (want == null) {
            changed = before;
        } else if (want.length == 0) {
            changed = Check.stored(1, other);
        } else {
            byte[] element = Check.element("a", want);
            changed = value == null ? Check.stored(1, other, element) : Check.stored(1, element, other);
        }
        PathShelf shelf = Check.shelfOf(before);
        Check.due(what, Check.change(shelf, "a", operator, operand), want == null ? 0 : 1);
        Check.dueStored(what + ", the document", shelf, changed);
    }

    private static void set() {
        dueChange("a new element is last", Check.SET, Check.text("hi"), null, Check.text("hi"));
        dueChange("in the old place", Check.SET, Check.text("hi"), Check.integer(5), Check.text("hi"));
        dueChange("a shorter one", Check.SET, Check.nothing(), Check.array(Check.integer(5)), Check.nothing());
        dueChange("a document", Check.SET, Check.document(Check.element("a", Check.bool(true))), Check.nothing(),
            Check.document(Check.element("a", Check.bool(true))));
        dueChange("the same", Check.SET, Check.bool(true), Check.bool(true), Check.bool(true));
    }

    private static void unset() {
        byte[] gone = {};
        dueChange("INT", Check.UNSET, Check.nothing(), Check.integer(3), gone);
        dueChange("ARRAY", Check.UNSET, Check.nothing(), Check.array(Check.integer(3), Check.document()), gone);
        dueChange("no element", Check.UNSET, Check.nothing(), null, gone);
        PathShelf shelf = Check.shelfOf(Check.stored(1, Check.element("a", Check.document(Check.element("b", Check.nothing()),
            Check.element("c", Check.integer(2))))));
        Check.due("deeper", Check.change(shelf, "a.b", Check.UNSET, Check.nothing()), 1);
        Check.dueStored("deeper", shelf, Check.stored(1, Check.element("a", Check.document(Check.element("c", Check.integer(2))))));
        Check.due("the last one", Check.change(shelf, "a.c", Check.UNSET, Check.nothing()), 1);
        Check.dueStored("an empty document stays", shelf, Check.stored(1, Check.element("a", Check.document())));
        Check.due("no document on the way", Check.change(shelf, "b.c.d", Check.UNSET, Check.nothing()), 1);
        Check.due("no element deeper", Check.change(shelf, "a.c.d", Check.UNSET, Check.nothing()), 1);
        Check.dueStored("does nothing", shelf, Check.stored(1, Check.element("a", Check.document())));
    }

    private static void add() {
        dueChange("sum", Check.ADD, Check.integer(300), Check.integer(-45), Check.integer(255));
        dueChange("below 0", Check.ADD, Check.integer(-300), Check.integer(299), Check.integer(-1));
        dueChange("no element", Check.ADD, Check.integer(-300), null, Check.integer(-300));
        dueChange("the greatest", Check.ADD, Check.integer(1), Check.integer(32766), Check.integer(32767));
        dueChange("above the greatest", Check.ADD, Check.integer(1), Check.integer(32767), null);
        dueChange("the least", Check.ADD, Check.integer(-1), Check.integer(-32767), Check.integer(-32768));
        dueChange("below the least", Check.ADD, Check.integer(-1), Check.integer(-32768), null);
        dueChange("to a text", Check.ADD, Check.integer(1), Check.text("1"), null);
        dueChange("to an array", Check.ADD, Check.integer(1), Check.array(Check.integer(1)), null);
        dueChange("to NULL", Check.ADD, Check.integer(1), Check.nothing(), null);
        dueChange("to BOOL", Check.ADD, Check.integer(1), Check.bool(true), null);
        dueChange("of a text", Check.ADD, Check.text("1"), Check.integer(1), null);
        dueChange("of a text without an element", Check.ADD, Check.text("1"), null, null);
        dueChange("of NULL without an element", Check.ADD, Check.nothing(), null, null);
    }

    private static void push() {
        dueChange("to an array", Check.PUSH, Check.text("x"), Check.array(Check.integer(1)), Check.array(Check.integer(1), Check.text("x")));
        dueChange("to an empty one", Check.PUSH, Check.nothing(), Check.array(), Check.array(Check.nothing()));
        dueChange("an array as an item", Check.PUSH, Check.array(Check.integer(1)), Check.array(), Check.array(Check.array(Check.integer(1))));
        dueChange("no element", Check.PUSH, Check.bool(false), null, Check.array(Check.bool(false)));
        dueChange("an array, no element", Check.PUSH, Check.array(), null, Check.array(Check.array()));
        dueChange("to an INT", Check.PUSH, Check.bool(false), Check.integer(1), null);
        dueChange("to a document", Check.PUSH, Check.bool(false), Check.document(), null);
        dueChange("to NULL", Check.PUSH, Check.bool(false), Check.nothing(), null);
    }

    private static void pull() {
        byte[] one = Check.integer(1);
        byte[] two = Check.integer(2);
        dueChange("all that are equal", Check.PULL, one, Check.array(one, two, one, one, Check.array(one)), Check.array(two, Check.array(one)));
        dueChange("none is equal", Check.PULL, Check.bool(true), Check.array(one, two), Check.array(one, two));
        dueChange("all items", Check.PULL, Check.nothing(), Check.array(Check.nothing(), Check.nothing()), Check.array());
        dueChange("an array", Check.PULL, Check.array(one), Check.array(one, Check.array(one), Check.array(two)), Check.array(one, Check.array(two)));
        dueChange("not the array itself", Check.PULL, Check.array(one), Check.array(one), Check.array(one));
        dueChange("a document", Check.PULL, Check.document(Check.element("b", one)),
            Check.array(Check.document(Check.element("b", one)), Check.document(Check.element("c", one))),
            Check.array(Check.document(Check.element("c", one))));
        dueChange("from an INT", Check.PULL, one, one, null);
        dueChange("from a document", Check.PULL, one, Check.document(), null);
        dueChange("from NULL", Check.PULL, Check.nothing(), Check.nothing(), null);
        dueChange("no element", Check.PULL, one, null, new byte[0]);
        PathShelf shelf = Check.shelfOf(Check.stored(1));
        Check.due("no document on the way", Check.change(shelf, "a.b", Check.PULL, one), 1);
        Check.dueStored("and none comes", shelf, Check.stored(1));
    }

    private static void documentsOnTheWay() {
        byte[] z = Check.element("z", Check.nothing());
        for (int operator : new int[] {Check.SET, Check.ADD, Check.PUSH}) {
            byte[] value = operator == Check.PUSH ? Check.array(Check.integer(6)) : Check.integer(6);
            byte[] inner = Check.element("b", Check.document(Check.element("c", value)));
            PathShelf shelf = Check.shelfOf(Check.stored(1, z), Check.stored(2, Check.element("a", Check.document(z)), z));
            Check.due("operator " + operator, Check.change(shelf, "a.b.c", operator, Check.integer(6)), 2);
            Check.dueStored("all come", shelf, Check.stored(1, z, Check.element("a", Check.document(inner))));
            Check.dueStored("one is there", shelf, Check.stored(2, Check.element("a", Check.document(z, inner)), z));
        }
    }

    private static void wayIsBarred() {
        byte[] document = Check.document(Check.element("b", Check.array(Check.integer(1))));
        byte[] barred = Check.stored(1, Check.element("a", Check.array(document)), Check.element("c", Check.integer(3)));
        for (int operator = Check.SET; operator <= Check.PULL; operator++) {
            PathShelf shelf = Check.shelfOf(barred);
            Check.due("an array", Check.change(shelf, "a.b", operator, Check.integer(1)), 0);
            Check.due("an INT", Check.change(shelf, "c.b", operator, Check.integer(1)), 0);
            Check.due("an INT, two names more", Check.change(shelf, "c.b.d", operator, Check.integer(1)), 0);
            Check.dueStored("stays", shelf, barred);
        }
    }

    private static byte[] nulls(int n) {
        byte[][] items = new byte[n][];
        java.util.Arrays.fill(items, Check.nothing());
        return Check.array(items);
    }

    private static void tooLong() {
        // 13 bytes and one for each item.
        PathShelf shelf = Check.shelfOf(Check.stored(1, Check.element("a", nulls(46))));
        Check.due("up to 60", Check.change(shelf, "a", Check.PUSH, Check.nothing()), 1);
        Check.dueStored("up to 60", shelf, Check.stored(1, Check.element("a", nulls(47))));
        Check.due("PUSH above 60", Check.change(shelf, "a", Check.PUSH, Check.nothing()), 0);
        Check.due("SET above 60", Check.change(shelf, "b", Check.SET, Check.nothing()), 0);
        Check.due("SET of 49 items for 47", Check.change(shelf, "a", Check.SET, nulls(49)), 0);
        Check.due("ADD above 60", Check.change(shelf, "b.c.d", Check.ADD, Check.integer(0)), 0);
        Check.due("the longest operand", Check.change(shelf, "b.c.d", Check.PUSH, nulls(77)), 0);
        Check.dueStored("stays", shelf, Check.stored(1, Check.element("a", nulls(47))));
        Check.due("PULL", Check.change(shelf, "a", Check.PULL, Check.nothing()), 1);
        Check.dueStored("PULL", shelf, Check.stored(1, Check.element("a", nulls(0))));
    }

    private static void tooDeep() {
        byte[] flat = Check.document(Check.element("x", Check.nothing()));
        byte[] nested = Check.document(Check.element("x", Check.array()));
        PathShelf shelf = Check.shelfOf(Check.stored(1));
        Check.due("the depth 5 by SET", Check.change(shelf, "a.b.c", Check.SET, nested), 0);
        Check.due("the depth 5 by PUSH", Check.change(shelf, "a.b.c", Check.PUSH, flat), 0);
        Check.dueStored("no document came", shelf, Check.stored(1));
        Check.due("the depth 4 by PUSH", Check.change(shelf, "a.b.c", Check.PUSH, Check.nothing()), 1);
        Check.due("the depth 5 by PUSH to an array", Check.change(shelf, "a.b.c", Check.PUSH, Check.array()), 0);
        Check.due("the depth 5 by SET in place", Check.change(shelf, "a.b", Check.SET, Check.array(nested)), 0);
        Check.due("the depth 4 by SET", Check.change(shelf, "a.b.c", Check.SET, flat), 1);
        byte[] inner = Check.document(Check.element("b", Check.document(Check.element("c", flat))));
        Check.dueStored("the depth 4", shelf, Check.stored(1, Check.element("a", inner)));
    }
}
