/** Promises 1 to 6: a new object, put, set, cut, size, at. */
final class BufferTest {
    public static void main(String[] args) {
        newObject();
        put();
        putUpToEighty();
        set();
        cut();
        Check.end();
    }

    private static void newObject() {
        PathShelf shelf = new PathShelf();
        Check.due("new: size", shelf.size(), 0);
        Check.due("new: at(0)", shelf.at(0), -1);
        Check.due("new: count", shelf.count(), 0);
        Check.due("new: entries(0)", shelf.entries(0), -1);
        Check.due("new: entries(1)", shelf.entries(1), -1);
        Check.due("new: examined", shelf.examined(), 0);
        Check.due("new: found(0)", shelf.found(0), -1);
        Check.due("new: anywhere", shelf.anywhere(), 0);
        Check.due("new: step, for there is no path", shelf.step('a', 1), false);
        Check.due("new: index, for there is no path", shelf.index(0), false);
        Check.due("new: find", shelf.find(), 0);
        Check.due("new: fetch", shelf.fetch(0), -1);
        Check.due("new: remove", shelf.remove(0), false);
        PathShelf other = new PathShelf();
        shelf.put(1, 1);
        shelf.path('a', 1);
        Check.due("objects share no buffer", other.size(), 0);
        Check.due("objects share no path", other.index(0), false);
    }

    private static void put() {
        PathShelf shelf = new PathShelf();
        Check.due("put 4", shelf.put(0x81020384, 4), true);
        Check.due("put 3", shelf.put(0x05060708, 3), true);
        Check.due("put 2", shelf.put(0x090a0bff, 2), true);
        Check.due("put 1", shelf.put(-1, 1), true);
        Check.due("buffer", Check.buffer(shelf), Check.bytes(0x81, 2, 3, 0x84, 6, 7, 8, 0x0b, 0xff, 0xff));
        Check.due("at is not negative", shelf.at(0), 0x81);
        Check.due("put 0", shelf.put(1, 0), false);
        Check.due("put 5", shelf.put(1, 5), false);
        Check.due("put -1", shelf.put(1, -1), false);
        Check.due("put of very many", shelf.put(1, Integer.MAX_VALUE), false);
        Check.due("put of very few", shelf.put(1, Integer.MIN_VALUE), false);
        Check.due("size", shelf.size(), 10);
    }

    private static void putUpToEighty() {
        PathShelf shelf = new PathShelf();
        for (int k = 0; k < 19; k++) {
            shelf.put(k, 4);
        }
        shelf.put(19, 1);
        Check.due("size", shelf.size(), 77);
        Check.due("put 4 on 77", shelf.put(1, 4), false);
        Check.due("size stays", shelf.size(), 77);
        Check.due("put 3 on 77", shelf.put(0x010203, 3), true);
        Check.due("put 1 on 80", shelf.put(1, 1), false);
        Check.due("size", shelf.size(), 80);
        Check.due("at(79)", shelf.at(79), 3);
        Check.due("at(80)", shelf.at(80), -1);
    }

    private static void set() {
        PathShelf shelf = new PathShelf();
        Check.due("set in an empty buffer", shelf.set(0, 1), false);
        shelf.put(0x0a0b0c, 3);
        Check.due("set(0, 255)", shelf.set(0, 255), true);
        Check.due("set(2, 0)", shelf.set(2, 0), true);
        Check.due("set(3, 1)", shelf.set(3, 1), false);
        Check.due("set(-1, 1)", shelf.set(-1, 1), false);
        Check.due("set(MIN, 1)", shelf.set(Integer.MIN_VALUE, 1), false);
        Check.due("set(MAX, 1)", shelf.set(Integer.MAX_VALUE, 1), false);
        Check.due("set(1, 256)", shelf.set(1, 256), false);
        Check.due("set(1, -1)", shelf.set(1, -1), false);
        Check.due("buffer", Check.buffer(shelf), Check.bytes(255, 11, 0));
        Check.due("at(-1)", shelf.at(-1), -1);
        Check.due("at(MIN)", shelf.at(Integer.MIN_VALUE), -1);
        Check.due("at(MAX)", shelf.at(Integer.MAX_VALUE), -1);
    }

    private static void cut() {
        PathShelf shelf = new PathShelf();
        Check.due("cut(0) of none", shelf.cut(0), true);
        Check.due("cut(1) of none", shelf.cut(1), false);
        shelf.put(0x01020304, 4);
        Check.due("cut(5) of 4", shelf.cut(5), false);
        Check.due("cut(-1)", shelf.cut(-1), false);
        Check.due("size stays", shelf.size(), 4);
        Check.due("cut(4) of 4", shelf.cut(4), true);
        Check.due("size is the same", shelf.size(), 4);
        Check.due("cut(2)", shelf.cut(2), true);
        Check.due("size", shelf.size(), 2);
        Check.due("a byte that was cut off", shelf.at(2), -1);
        Check.due("set of a byte that was cut off", shelf.set(2, 1), false);
        shelf.put(9, 1);
        Check.due("what comes stands behind what is left", Check.buffer(shelf), Check.bytes(1, 2, 9));
    }
}
