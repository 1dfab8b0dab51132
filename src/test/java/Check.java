import java.io.ByteArrayOutputStream;

/** What every test of the project uses: counting wrong answers, and writing values in the form. */
final class Check {
    static final int EQUAL = 0;
    static final int DIFFERENT = 1;
    static final int LESS = 2;
    static final int AT_MOST = 3;
    static final int MORE = 4;
    static final int AT_LEAST = 5;
    static final int THERE = 6;
    static final int SIZE = 7;

    static final int SET = 0;
    static final int UNSET = 1;
    static final int ADD = 2;
    static final int PUSH = 3;
    static final int PULL = 4;

    private static int wrong = 0;
    private static int asked = 0;

    private Check() {
    }

    static void due(String what, long got, long want) {
        asked++;
        if (got != want) {
            wrong++;
            System.out.println(what + " answered " + got + ", due is " + want);
        }
    }

    static void due(String what, boolean got, boolean want) {
        due(what, got ? 1 : 0, want ? 1 : 0);
    }

    static void due(String what, byte[] got, byte[] want) {
        asked++;
        if (!java.util.Arrays.equals(got, want)) {
            wrong++;
            System.out.println(what + " is " + text(got) + ", due is " + text(want));
        }
    }

    static void end() {
        System.out.println(asked + " answers, " + wrong + " wrong");
        if (wrong != 0 || asked == 0) {
            System.exit(1);
        }
    }

    static String text(byte[] bytes) {
        return java.util.HexFormat.ofDelimiter(" ").formatHex(bytes);
    }

    // A value is written with its type's byte in front, as an operand or an item is.

    static byte[] integer(int number) {
        return bytes(1, (number >> 8) & 255, number & 255);
    }

    static byte[] text(String characters) {
        return join(bytes(2, characters.length()), characters.getBytes(java.nio.charset.StandardCharsets.ISO_8859_1));
    }

    static byte[] bool(boolean truth) {
        return bytes(5, truth ? 1 : 0);
    }

    static byte[] nothing() {
        return bytes(6);
    }

    static byte[] array(byte[]... items) {
        return nest(4, join(items));
    }

    static byte[] document(byte[]... elements) {
        return nest(3, join(elements));
    }

    static byte[] element(String name, byte[] value) {
        return join(bytes(value[0]), letters(name), bytes(0), behindType(value));
    }

    /** A document as the store holds it: without a type's byte, its number first. */
    static byte[] stored(int number, byte[]... elements) {
        return behindType(document(element("id", integer(number)), join(elements)));
    }

    static byte[] behindType(byte[] value) {
        return java.util.Arrays.copyOfRange(value, 1, value.length);
    }

    static byte[] bytes(int... numbers) {
        byte[] row = new byte[numbers.length];
        for (int k = 0; k < numbers.length; k++) {
            row[k] = (byte) numbers[k];
        }
        return row;
    }

    static byte[] join(byte[]... rows) {
        ByteArrayOutputStream all = new ByteArrayOutputStream();
        for (byte[] row : rows) {
            all.writeBytes(row);
        }
        return all.toByteArray();
    }

    private static byte[] nest(int type, byte[] parts) {
        return join(bytes(type, parts.length + 2), parts, bytes(0));
    }

    private static byte[] letters(String name) {
        return name.getBytes(java.nio.charset.StandardCharsets.US_ASCII);
    }

    // Whole steps with an object.

    /** The buffer becomes these bytes. */
    static void type(PathShelf shelf, byte... row) {
        shelf.cut(0);
        for (byte b : row) {
            due("put of a byte", shelf.put(b, 1), true);
        }
    }

    static byte[] buffer(PathShelf shelf) {
        byte[] row = new byte[shelf.size()];
        for (int p = 0; p < row.length; p++) {
            row[p] = (byte) shelf.at(p);
        }
        return row;
    }

    /** The path becomes these names, written with dots between them. */
    static void go(PathShelf shelf, String names) {
        String[] each = names.split("\\.");
        due("path " + each[0], shelf.path(word(each[0]), each[0].length()), true);
        for (int k = 1; k < each.length; k++) {
            due("step " + each[k], shelf.step(word(each[k]), each[k].length()), true);
        }
    }

    static int word(String name) {
        int word = 0;
        for (byte letter : letters(name)) {
            word = (word << 8) | letter;
        }
        return word;
    }

    static int insert(PathShelf shelf, byte[] document) {
        type(shelf, document);
        return shelf.insert();
    }

    static PathShelf shelfOf(byte[]... documents) {
        PathShelf shelf = new PathShelf();
        for (byte[] document : documents) {
            int answer = insert(shelf, document);
            due("insert of " + text(document), answer >= 0, true);
        }
        return shelf;
    }

    static int where(PathShelf shelf, String names, int form, byte[] operand) {
        go(shelf, names);
        type(shelf, operand);
        return shelf.where(form);
    }

    static int change(PathShelf shelf, String names, int operator, byte[] operand) {
        go(shelf, names);
        type(shelf, operand);
        return shelf.change(operator);
    }

    /** Looks at a stored document without leaving its bytes in the buffer. */
    static void dueStored(String what, PathShelf shelf, byte[] want) {
        byte[] before = buffer(shelf);
        int number = ((want[5] & 255) << 8) | (want[6] & 255);
        due(what + ": fetch", shelf.fetch(number), want.length);
        due(what, buffer(shelf), want);
        type(shelf, before);
    }

    /** The one condition is the only one, and just these documents are found. */
    static void dueFound(String what, PathShelf shelf, int... numbers) {
        due(what + ": find", shelf.find(), numbers.length);
        for (int k = 0; k < numbers.length; k++) {
            due(what + ": found " + k, shelf.found(k), numbers[k]);
        }
        due(what + ": found behind the last", shelf.found(numbers.length), -1);
    }
}
