/**
 * A PathShelf as the tests use it. Its calls are counted, for the document says nothing of an object after
 * its 512th call; and what tests often do in several calls has a name here.
 */
final class Shelf {
    static final int EQUAL = 0;
    static final int DIFFERENT = 1;
    static final int LESS = 2;
    static final int AT_MOST = 3;
    static final int MORE = 4;
    static final int AT_LEAST = 5;
    static final int THERE = 6;
    static final int SIZE = 7;

    static final int SET = 0;
    static final int UNSET = 1;
    static final int ADD = 2;
    static final int PUSH = 3;
    static final int PULL = 4;

    static final int MOST_CALLS = 512;

    private final PathShelf shelf = new PathShelf();
    private int calls = 0;

    /** One with these documents, written as texts. */
    static Shelf of(String... documents) {
        Shelf shelf = new Shelf();
        for (String document : documents) {
            Check.due("insert of " + document, shelf.insert(Written.document(document)) >= 0, true);
        }
        return shelf;
    }

    /**
     * One in which every part of the state shows: documents, two indexes, two conditions, what was found, other
     * documents examined than found, a path of two names, and an operand in the buffer.
     */
    static Shelf busy() {
        Shelf shelf = of("{id:1}", "{id:2, a:5, b:{c:7}}", "{id:3, a:[5,'x',null], b:[{c:1},{c:2}]}", "{id:4, a:'m'}");
        shelf.go("a");
        shelf.index(0);
        shelf.go("b.c");
        shelf.index(1);
        shelf.find();
        shelf.where("id", MORE, "1");
        shelf.where("a", AT_LEAST, "5");
        shelf.change("z", UNSET, "null");
        shelf.go("b.x");
        shelf.type(Written.value("9"));
        return shelf;
    }

    /** As busy, but with these bytes in the buffer. */
    static Shelf busyWith(byte... row) {
        Shelf shelf = busy();
        shelf.type(row);
        return shelf;
    }

    int callsLeft() {
        return MOST_CALLS - calls;
    }

    private PathShelf next() {
        if (calls == MOST_CALLS) {
            throw new IllegalStateException("a test uses an object for more than 512 calls");
        }
        calls++;
        return shelf;
    }

    // The face.

    boolean put(int word, int n) {
        return next().put(word, n);
    }

    boolean set(int p, int b) {
        return next().set(p, b);
    }

    boolean cut(int n) {
        return next().cut(n);
    }

    int size() {
        return next().size();
    }

    int at(int p) {
        return next().at(p);
    }

    boolean path(int word, int n) {
        return next().path(word, n);
    }

    boolean step(int word, int n) {
        return next().step(word, n);
    }

    int insert() {
        return next().insert();
    }

    int fetch(int number) {
        return next().fetch(number);
    }

    boolean remove(int number) {
        return next().remove(number);
    }

    boolean index(int i) {
        return next().index(i);
    }

    int entries(int i) {
        return next().entries(i);
    }

    int where(int form) {
        return next().where(form);
    }

    int anywhere() {
        return next().anywhere();
    }

    int find() {
        return next().find();
    }

    int found(int k) {
        return next().found(k);
    }

    int examined() {
        return next().examined();
    }

    int change(int operator) {
        return next().change(operator);
    }

    int count() {
        return next().count();
    }

    // Several calls at once.

    /** The buffer becomes these bytes. */
    void type(byte... row) {
        cut(0);
        for (int p = 0; p < row.length; p += 4) {
            int n = Math.min(4, row.length - p);
            int word = 0;
            for (int k = 0; k < n; k++) {
                word = (word << 8) | (row[p + k] & 255);
            }
            Check.due("put of byte " + p + " and what follows it", put(word, n), true);
        }
    }

    byte[] buffer() {
        byte[] row = new byte[size()];
        for (int p = 0; p < row.length; p++) {
            row[p] = (byte) at(p);
        }
        return row;
    }

    /** The path becomes these names, with dots between them. */
    void go(String names) {
        String[] each = names.split("\\.");
        Check.due("path " + each[0], path(Written.word(each[0]), each[0].length()), true);
        for (int k = 1; k < each.length; k++) {
            Check.due("step " + each[k], step(Written.word(each[k]), each[k].length()), true);
        }
    }

    void index(int i, String names) {
        go(names);
        Check.due("index on " + names, index(i), true);
    }

    int insert(byte[] document) {
        type(document);
        return insert();
    }

    int where(String names, int form, String operand) {
        go(names);
        type(Written.value(operand));
        return where(form);
    }

    int change(String names, int operator, String operand) {
        go(names);
        type(Written.value(operand));
        return change(operator);
    }

    /** That the document is in the store as it is written; its bytes are in the buffer then. */
    void dueStored(String what, String document) {
        dueStored(what, Written.document(document));
    }

    void dueStored(String what, byte[] document) {
        int number = ((document[5] & 255) << 8) | (document[6] & 255);
        Check.due(what + ": fetch", fetch(number), document.length);
        Check.due(what, buffer(), document);
    }

    void dueFound(String what, int... numbers) {
        Check.due(what + ": find", find(), numbers.length);
        for (int k = 0; k < numbers.length; k++) {
            Check.due(what + ": found " + k, found(k), numbers[k]);
        }
        Check.due(what + ": found behind the last", found(numbers.length), -1);
    }
}
