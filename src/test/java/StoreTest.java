/** Promises 10, 11 and 20: fetch, remove, count. */
final class StoreTest {
    public static void main(String[] args) {
        fetch();
        remove();
        Check.end();
    }

    private static void fetch() {
        byte[] ten = Check.stored(10, Check.element("a", Check.text("hey")));
        byte[] five = Check.stored(5, Check.element("b", Check.array(Check.integer(255))));
        PathShelf shelf = Check.shelfOf(ten, five);
        Check.due("count", shelf.count(), 2);
        Check.type(shelf, Check.bytes(1, 2, 3));
        Check.due("fetch of none", shelf.fetch(6), -1);
        Check.due("fetch of -1", shelf.fetch(-1), -1);
        Check.due("fetch of 1000", shelf.fetch(1000), -1);
        Check.due("a refused fetch leaves the buffer", Check.buffer(shelf), Check.bytes(1, 2, 3));
        Check.due("fetch", shelf.fetch(10), ten.length);
        Check.due("the buffer is the document", Check.buffer(shelf), ten);
        Check.due("fetch of the other", shelf.fetch(5), five.length);
        Check.due("the buffer is the other", Check.buffer(shelf), five);
        shelf.set(6, 8);
        Check.due("the store does not change with the buffer", shelf.fetch(5), five.length);
        Check.due("what was fetched again", Check.buffer(shelf), five);
        shelf.set(6, 8);
        Check.due("what is fetched can be inserted", shelf.insert(), 8);
        Check.due("count", shelf.count(), 3);
        Check.dueFound("by rising numbers", shelf, 5, 8, 10);
    }

    private static void remove() {
        PathShelf shelf = Check.shelfOf(Check.stored(3), Check.stored(1), Check.stored(2), Check.stored(0));
        Check.due("remove of none", shelf.remove(4), false);
        Check.due("remove of -1", shelf.remove(-1), false);
        Check.due("count stays", shelf.count(), 4);
        Check.due("remove", shelf.remove(2), true);
        Check.due("remove again", shelf.remove(2), false);
        Check.due("fetch of what went", shelf.fetch(2), -1);
        Check.due("count", shelf.count(), 3);
        Check.dueStored("another", shelf, Check.stored(3));
        Check.dueFound("the others", shelf, 0, 1, 3);
        Check.due("the number is free", Check.insert(shelf, Check.stored(2, Check.element("x", Check.nothing()))), 2);
        Check.dueStored("the new one", shelf, Check.stored(2, Check.element("x", Check.nothing())));
        Check.dueStored("the one behind it", shelf, Check.stored(3));
        for (int number = 0; number < 4; number++) {
            Check.due("remove " + number, shelf.remove(number), true);
        }
        Check.due("count of none", shelf.count(), 0);
        Check.due("find of none", shelf.find(), 0);
    }
}
