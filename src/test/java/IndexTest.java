/** Promises 12 and 13: index, entries. */
final class IndexTest {
    public static void main(String[] args) {
        refused();
        entries();
        throughArrays();
        follows();
        pathIsKept();
        Check.end();
    }

    private static void refused() {
        PathShelf shelf = new PathShelf();
        Check.due("index without a path", shelf.index(0), false);
        Check.go(shelf, "a");
        Check.due("index 2", shelf.index(2), false);
        Check.due("index -1", shelf.index(-1), false);
        Check.due("entries of 0", shelf.entries(0), -1);
        Check.due("index 1", shelf.index(1), true);
        Check.due("entries of 0 still", shelf.entries(0), -1);
        Check.due("entries of 1", shelf.entries(1), 0);
        Check.due("entries of 2", shelf.entries(2), -1);
        Check.due("entries of -1", shelf.entries(-1), -1);
        Check.due("entries of MIN", shelf.entries(Integer.MIN_VALUE), -1);
    }

    private static int entriesOf(String path, byte[]... elements) {
        PathShelf shelf = Check.shelfOf(Check.stored(1, elements));
        Check.go(shelf, path);
        shelf.index(0);
        return shelf.entries(0);
    }

    private static void entries() {
        Check.due("no value", entriesOf("a"), 0);
        Check.due("INT", entriesOf("a", Check.element("a", Check.integer(1))), 1);
        Check.due("TEXT", entriesOf("a", Check.element("a", Check.text(""))), 1);
        Check.due("BOOL", entriesOf("a", Check.element("a", Check.bool(false))), 1);
        Check.due("NULL", entriesOf("a", Check.element("a", Check.nothing())), 1);
        Check.due("DOCUMENT", entriesOf("a", Check.element("a", Check.document())), 0);
        Check.due("ARRAY", entriesOf("a", Check.element("a", Check.array())), 0);
        Check.due("the number", entriesOf("id"), 1);
        byte[] many = Check.array(Check.integer(1), Check.integer(1), Check.text("1"), Check.bool(true), Check.nothing(),
            Check.nothing(), Check.array(Check.integer(5)), Check.document(), Check.integer(257), Check.text("1"));
        Check.due("each different one of an array", entriesOf("a", Check.element("a", many)), 5);
        byte[] texts = Check.array(Check.text("a"), Check.text("ab"), Check.text(""), Check.text("b"), Check.text("ab"));
        Check.due("different texts", entriesOf("a", Check.element("a", texts)), 4);
    }

    private static void throughArrays() {
        byte[] item = Check.document(Check.element("b", Check.integer(1)));
        byte[] other = Check.document(Check.element("b", Check.array(Check.integer(1), Check.integer(2))));
        byte[] array = Check.array(item, other, Check.array(Check.document(Check.element("b", Check.integer(3)))));
        Check.due("a.b", entriesOf("a.b", Check.element("a", array)), 2);
        Check.due("a", entriesOf("a", Check.element("a", array)), 0);
        Check.due("a.c", entriesOf("a.c", Check.element("a", array)), 0);
    }

    private static void follows() {
        PathShelf shelf = Check.shelfOf(Check.stored(1, Check.element("a", Check.integer(1))));
        Check.go(shelf, "a");
        shelf.index(0);
        shelf.index(1);
        Check.insert(shelf, Check.stored(2, Check.element("a", Check.integer(1))));
        Check.due("one for each document", shelf.entries(0), 2);
        Check.due("in the other index too", shelf.entries(1), 2);
        Check.due("change", Check.change(shelf, "a", Check.SET, Check.array(Check.integer(1), Check.nothing())), 2);
        Check.due("entries follow a change", shelf.entries(0), 4);
        shelf.remove(1);
        Check.due("entries follow a remove", shelf.entries(0), 2);
        Check.go(shelf, "id");
        shelf.index(0);
        Check.due("another path in place of the old one", shelf.entries(0), 1);
        Check.due("the other index has its own", shelf.entries(1), 2);
    }

    private static void pathIsKept() {
        PathShelf shelf = Check.shelfOf(Check.stored(1, Check.element("a", Check.document(Check.element("b", Check.bool(true))))));
        Check.go(shelf, "a.b");
        shelf.index(0);
        Check.go(shelf, "a");
        Check.due("path changes an index no more", shelf.entries(0), 1);
        shelf.index(1);
        Check.go(shelf, "a.b");
        Check.due("nor does step", shelf.entries(1), 0);
    }
}
