/** Promises 7 and 8: path, step. What path is typed shows in where a change brings an element. */
final class PathTest {
    public static void main(String[] args) {
        path();
        step();
        letters();
        Check.end();
    }

    private static void path() {
        PathShelf shelf = Check.shelfOf(Check.stored(1));
        Check.due("path of no bytes", shelf.path('a', 0), false);
        Check.due("path of 5", shelf.path('a', 5), false);
        Check.due("path of -1", shelf.path('a', -1), false);
        Check.due("a capital letter", shelf.path('A', 1), false);
        Check.due("a 0 above a letter", shelf.path('a', 2), false);
        Check.due("still no path", shelf.index(0), false);
        Check.due("the higher bytes do not count", shelf.path(0x41416162, 2), true);
        Check.type(shelf, Check.nothing());
        Check.due("change", shelf.change(Check.SET), 1);
        Check.dueStored("the name ab", shelf, Check.stored(1, Check.element("ab", Check.nothing())));
        Check.due("a wrong path is refused", shelf.path('!', 1), false);
        shelf.change(Check.UNSET);
        Check.dueStored("and the path stays", shelf, Check.stored(1));
    }

    private static void step() {
        PathShelf shelf = Check.shelfOf(Check.stored(1));
        Check.due("step without a path", shelf.step('b', 1), false);
        Check.due("there is still no path", shelf.index(0), false);
        Check.go(shelf, "a");
        Check.due("step of no bytes", shelf.step('b', 0), false);
        Check.due("step of 5", shelf.step('b', 5), false);
        Check.due("step of a digit", shelf.step('1', 1), false);
        Check.due("second name", shelf.step(Check.word("bcde"), 4), true);
        Check.due("third name", shelf.step(Check.word("xyz"), 3), true);
        Check.due("fourth name", shelf.step('d', 1), false);
        Check.type(shelf, Check.integer(7));
        Check.due("change", shelf.change(Check.SET), 1);
        byte[] third = Check.document(Check.element("xyz", Check.integer(7)));
        byte[] second = Check.document(Check.element("bcde", third));
        Check.dueStored("a.bcde.xyz", shelf, Check.stored(1, Check.element("a", second)));
        Check.due("path is one name again", shelf.path('a', 1), true);
        shelf.change(Check.UNSET);
        Check.dueStored("a", shelf, Check.stored(1));
        Check.due("step after path", shelf.step('z', 1), true);
    }

    private static void letters() {
        PathShelf shelf = new PathShelf();
        for (int code = 0; code < 256; code++) {
            boolean isLetter = code >= 'a' && code <= 'z';
            Check.due("path of " + code, shelf.path(code, 1), isLetter);
            Check.due("path of a and " + code, shelf.path(('a' << 8) | code, 2), isLetter);
            Check.due("path of " + code + " and abc", shelf.path((code << 24) | Check.word("abc"), 4), isLetter);
        }
        Check.due("path of zzzz", shelf.path(Check.word("zzzz"), 4), true);
    }
}
