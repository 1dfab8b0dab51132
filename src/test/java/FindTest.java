/** Promises 16 to 18: find, found, examined. */
final class FindTest {
    public static void main(String[] args) {
        allConditions();
        foundStays();
        examined();
        whichConditionsUseAnIndex();
        firstCondition();
        Check.end();
    }

    private static PathShelf shelf() {
        return Check.shelfOf(
            Check.stored(30, Check.element("a", Check.integer(1)), Check.element("b", Check.text("x"))),
            Check.stored(10, Check.element("a", Check.array(Check.integer(1), Check.integer(2), Check.bool(true)))),
            Check.stored(20, Check.element("a", Check.text("m")), Check.element("b", Check.text("y"))),
            Check.stored(40, Check.element("b", Check.text("x"))));
    }

    private static void allConditions() {
        PathShelf shelf = shelf();
        Check.dueFound("no condition", shelf, 10, 20, 30, 40);
        Check.where(shelf, "a", Check.EQUAL, Check.integer(1));
        Check.dueFound("one", shelf, 10, 30);
        Check.where(shelf, "id", Check.MORE, Check.integer(10));
        Check.dueFound("two", shelf, 30);
        Check.where(shelf, "b", Check.EQUAL, Check.text("y"));
        Check.dueFound("three", shelf);
    }

    private static void foundStays() {
        PathShelf shelf = shelf();
        Check.due("found before any find", shelf.found(0), -1);
        Check.where(shelf, "a", Check.EQUAL, Check.integer(1));
        shelf.find();
        shelf.remove(30);
        shelf.anywhere();
        Check.change(shelf, "b", Check.SET, Check.nothing());
        Check.insert(shelf, Check.stored(5));
        Check.due("found(0) stays", shelf.found(0), 10);
        Check.due("found(1) stays", shelf.found(1), 30);
        Check.due("found(2)", shelf.found(2), -1);
        Check.due("found(-1)", shelf.found(-1), -1);
        Check.due("found(MAX)", shelf.found(Integer.MAX_VALUE), -1);
        Check.dueFound("find again", shelf, 5, 10, 20, 40);
    }

    private static void examined() {
        PathShelf shelf = shelf();
        Check.due("before any finding", shelf.examined(), 0);
        shelf.find();
        Check.due("all", shelf.examined(), 4);
        Check.where(shelf, "a", Check.EQUAL, Check.integer(1));
        Check.due("find", shelf.find(), 2);
        Check.due("all without an index", shelf.examined(), 4);
        Check.go(shelf, "a");
        shelf.index(1);
        Check.due("examined stays till the next finding", shelf.examined(), 4);
        Check.due("find", shelf.find(), 2);
        Check.due("those with an entry", shelf.examined(), 2);
        Check.where(shelf, "b", Check.EQUAL, Check.text("x"));
        Check.due("find", shelf.find(), 1);
        Check.due("those with an entry, not those that match", shelf.examined(), 2);
        Check.go(shelf, "c");
        Check.due("change", shelf.change(Check.UNSET), 1);
        shelf.anywhere();
        Check.due("by a change", shelf.examined(), 2);
        shelf.change(Check.UNSET);
        Check.due("by a change without conditions", shelf.examined(), 4);
        Check.where(shelf, "a", Check.LESS, Check.integer(5));
        shelf.find();
        Check.due("a document with two entries once", shelf.examined(), 2);
        Check.change(shelf, "id", Check.SET, Check.nothing());
        Check.go(shelf, "c");
        Check.type(shelf, Check.bytes(9));
        Check.due("a faulty change", shelf.change(Check.SET), -1);
        Check.due("a refused change examines nothing", shelf.examined(), 2);
        shelf.remove(10);
        Check.due("nor does a remove", shelf.examined(), 2);
        shelf.find();
        Check.due("then", shelf.examined(), 1);
    }

    private static void uses(int form, byte[] operand, int want) {
        PathShelf shelf = shelf();
        Check.go(shelf, "a");
        shelf.index(0);
        Check.where(shelf, "a", form, operand);
        shelf.find();
        Check.due("examined by form " + form + " of " + Check.text(operand), shelf.examined(), want);
    }

    private static void whichConditionsUseAnIndex() {
        uses(Check.EQUAL, Check.integer(2), 1);
        uses(Check.EQUAL, Check.integer(3), 0);
        uses(Check.EQUAL, Check.text("m"), 1);
        uses(Check.EQUAL, Check.bool(true), 1);
        uses(Check.EQUAL, Check.nothing(), 4);
        uses(Check.EQUAL, Check.array(), 4);
        uses(Check.EQUAL, Check.document(), 4);
        uses(Check.DIFFERENT, Check.integer(1), 4);
        uses(Check.LESS, Check.integer(2), 2);
        uses(Check.AT_MOST, Check.integer(0), 0);
        uses(Check.MORE, Check.integer(1), 1);
        uses(Check.AT_LEAST, Check.integer(1), 2);
        uses(Check.LESS, Check.text("n"), 1);
        uses(Check.MORE, Check.text("m"), 0);
        uses(Check.LESS, Check.bool(true), 4);
        uses(Check.AT_LEAST, Check.nothing(), 4);
        uses(Check.AT_MOST, Check.array(), 4);
        uses(Check.THERE, Check.integer(1), 4);
        uses(Check.SIZE, Check.integer(3), 4);
    }

    private static void firstCondition() {
        PathShelf shelf = shelf();
        Check.go(shelf, "b");
        shelf.index(0);
        Check.go(shelf, "a");
        shelf.index(1);
        Check.where(shelf, "id", Check.MORE, Check.integer(0));
        Check.where(shelf, "a", Check.MORE, Check.integer(1));
        Check.where(shelf, "b", Check.EQUAL, Check.text("x"));
        shelf.find();
        Check.due("the first that can, though its index is the higher one", shelf.examined(), 1);
        shelf.anywhere();
        Check.where(shelf, "a", Check.THERE, Check.bool(false));
        Check.where(shelf, "b", Check.EQUAL, Check.text("x"));
        Check.where(shelf, "a", Check.EQUAL, Check.integer(9));
        Check.dueFound("none", shelf);
        Check.due("the second one", shelf.examined(), 2);
        shelf.anywhere();
        Check.go(shelf, "a.b");
        shelf.index(1);
        Check.where(shelf, "a", Check.EQUAL, Check.integer(1));
        shelf.find();
        Check.due("another path is no use, though it begins so", shelf.examined(), 4);
        shelf.anywhere();
        Check.where(shelf, "a.b", Check.EQUAL, Check.integer(1));
        shelf.find();
        Check.due("the path of two names", shelf.examined(), 0);
        shelf.anywhere();
        Check.where(shelf, "a.c", Check.EQUAL, Check.integer(1));
        shelf.find();
        Check.due("another second name", shelf.examined(), 4);
    }
}
