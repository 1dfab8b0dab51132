/** Promises 7 and 8: path, step. Above each test stands the sentence that it tests. */
final class PathTest {
    private static final int[] NO_COUNTS = {0, 5, -1, 8, Integer.MIN_VALUE, Integer.MAX_VALUE};

    public static void main(String[] args) {
        pathBecomesOneName();
        pathTakesTheLowestBytes();
        pathTakesOneToFour();
        pathTakesLettersAlone();
        stepAddsAName();
        stepTakesANameAlone();
        stepNeedsAPath();
        stepStopsAtThree();
        Check.end();
    }

    private static Shelf one() {
        return Shelf.of("{id:1}");
    }

    /** What names are typed shows in what a change brings. */
    private static void duePath(String what, Shelf shelf, String document) {
        shelf.type(Written.nothing());
        Check.due(what + ": change", shelf.change(Shelf.SET), 1);
        shelf.dueStored(what, document);
    }

    /** "The path becomes the one name" */
    private static void pathBecomesOneName() {
        Shelf shelf = one();
        Check.due("path", shelf.path('x', 1), true);
        duePath("one name", shelf, "{id:1, x:null}");
        shelf = one();
        shelf.go("a.b.c");
        Check.due("path behind three names", shelf.path('x', 1), true);
        duePath("one name again", shelf, "{id:1, x:null}");
        Check.due("a second one", shelf.step('y', 1), true);
        Check.due("a third one", shelf.step('z', 1), true);
        Check.due("no fourth one", shelf.step('z', 1), false);
    }

    /** "that the n lowest bytes of word are, the highest of them first" */
    private static void pathTakesTheLowestBytes() {
        String[] names = {"d", "cd", "bcd", "abcd"};
        for (int n = 1; n <= 4; n++) {
            Shelf shelf = one();
            Check.due("path of " + n + " of abcd", shelf.path(Written.word("abcd"), n), true);
            duePath("path of " + n, shelf, "{id:1, " + names[n - 1] + ":null}");
            shelf = one();
            shelf.go("a");
            Check.due("step of " + n + " of abcd", shelf.step(Written.word("abcd"), n), true);
            duePath("step of " + n, shelf, "{id:1, a:{" + names[n - 1] + ":null}}");
        }
        Shelf shelf = one();
        Check.due("the higher bytes need not be letters", shelf.path(0xff416162, 2), true);
        duePath("the higher bytes do not count", shelf, "{id:1, ab:null}");
    }

    /** "false, refused, if n is not 1 .. 4" */
    private static void pathTakesOneToFour() {
        for (int n : NO_COUNTS) {
            Refused.dueFalse("path of " + n, Shelf::busy, shelf -> shelf.path(Written.word("abcd"), n));
            Refused.dueFalse("path of " + n + " on a new object", Shelf::new, shelf -> shelf.path(Written.word("abcd"), n));
        }
    }

    private static boolean isLetter(int code) {
        return code >= 'a' && code <= 'z';
    }

    private static int with(int word, int k, int code) {
        return (word & ~(255 << (8 * k))) | (code << (8 * k));
    }

    /** "or one of them is no letter a .. z" */
    private static void pathTakesLettersAlone() {
        for (int n = 1; n <= 4; n++) {
            int many = n;
            for (int k = 0; k < n; k++) {
                Shelf shelf = new Shelf();
                for (int code = 0; code < 256; code++) {
                    int word = with(Written.word("mmmm"), k, code);
                    Check.due("path of " + n + ", byte " + k + " is " + code, shelf.path(word, n), isLetter(code));
                }
                for (int code : new int[] {0, 'a' - 1, 'z' + 1, 'A', 'Z', '0', 255}) {
                    int word = with(Written.word("mmmm"), k, code);
                    Refused.dueFalse("path of " + n + ", byte " + k + " is " + code, Shelf::busy, each -> each.path(word, many));
                }
            }
        }
        Check.due("a", new Shelf().path('a', 1), true);
        Check.due("zzzz", new Shelf().path(Written.word("zzzz"), 4), true);
    }

    /** "One more name, written like that, comes behind those of the path" */
    private static void stepAddsAName() {
        Shelf shelf = one();
        shelf.path(Written.word("abcd"), 4);
        Check.due("a second name", shelf.step('z', 1), true);
        duePath("two names", shelf, "{id:1, abcd:{z:null}}");
        Check.due("a third name", shelf.step(Written.word("wxyz"), 4), true);
        shelf.type(Written.nothing());
        Check.due("the second one is no document", shelf.change(Shelf.SET), 0);
        shelf.path(Written.word("abcd"), 4);
        shelf.change(Shelf.UNSET);
        shelf.go("abcd.z.wxyz");
        duePath("three names", shelf, "{id:1, abcd:{z:{wxyz:null}}}");
        shelf = one();
        shelf.go("a.a.a");
        duePath("a name may come again", shelf, "{id:1, a:{a:{a:null}}}");
    }

    /** "false, refused, if it is none" */
    private static void stepTakesANameAlone() {
        for (int n : NO_COUNTS) {
            Refused.dueFalse("step of " + n, Shelf::busy, shelf -> shelf.step(Written.word("abcd"), n));
        }
        for (int n = 1; n <= 4; n++) {
            int many = n;
            for (int k = 0; k < n; k++) {
                for (int code : new int[] {0, 'a' - 1, 'z' + 1, 'A', '9', 255}) {
                    int word = with(Written.word("mmmm"), k, code);
                    Refused.dueFalse("step of " + n + ", byte " + k + " is " + code, Shelf::busy, each -> each.step(word, many));
                }
                for (int code : new int[] {'a', 'z'}) {
                    int word = with(Written.word("mmmm"), k, code);
                    Check.due("step of " + n + ", byte " + k + " is " + code, Shelf.busy().step(word, n), true);
                }
            }
        }
    }

    /** "there is no path yet" */
    private static void stepNeedsAPath() {
        Refused.dueFalse("step on a new object", Shelf::new, shelf -> shelf.step('a', 1));
        Refused.dueFalse("step without a path", PathTest::one, shelf -> shelf.step('a', 1));
        Shelf shelf = one();
        shelf.path('A', 1);
        Check.due("step behind a refused path", shelf.step('a', 1), false);
        shelf.path('a', 1);
        Check.due("step behind a path", shelf.step('a', 1), true);
    }

    private static Shelf ofNames(int n) {
        Shelf shelf = Shelf.busy();
        shelf.go(new String[] {"x", "x.y", "x.y.z"}[n - 1]);
        return shelf;
    }

    /** "or it has 3" */
    private static void stepStopsAtThree() {
        Check.due("step on one name", ofNames(1).step('w', 1), true);
        Check.due("step on two names", ofNames(2).step('w', 1), true);
        Refused.dueFalse("step on three names", () -> ofNames(3), shelf -> shelf.step('w', 1));
        Shelf shelf = one();
        shelf.go("x.y.z");
        shelf.step('w', 1);
        duePath("the three names stay", shelf, "{id:1, x:{y:{z:null}}}");
    }
}
