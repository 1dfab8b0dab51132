import java.io.ByteArrayOutputStream;
import java.nio.charset.StandardCharsets;
import java.util.Arrays;
import java.util.HexFormat;

/** Values written in the form of bytes, from parts or from a text such as {id:3, a:[5,'x',null], b:{c:true}}. */
final class Written {
    private final String text;
    private int place = 0;

    private Written(String text) {
        this.text = text;
    }

    /** As an operand is: the type's byte, the value. */
    static byte[] value(String text) {
        return new Written(text).readValue();
    }

    /** As the store holds it: without the type's byte. */
    static byte[] document(String text) {
        return behindType(value(text));
    }

    // From parts, each value with its type's byte in front.

    static byte[] integer(int number) {
        return bytes(1, (number >> 8) & 255, number & 255);
    }

    static byte[] text(String characters) {
        return join(bytes(2, characters.length()), characters.getBytes(StandardCharsets.ISO_8859_1));
    }

    static byte[] bool(boolean truth) {
        return bytes(5, truth ? 1 : 0);
    }

    static byte[] nothing() {
        return bytes(6);
    }

    static byte[] array(byte[]... items) {
        return nest(4, join(items));
    }

    static byte[] documentOf(byte[]... elements) {
        return nest(3, join(elements));
    }

    static byte[] element(String name, byte[] value) {
        return join(bytes(value[0]), name.getBytes(StandardCharsets.US_ASCII), bytes(0), behindType(value));
    }

    /** A document as the store holds it, of its number and these elements. */
    static byte[] stored(int number, byte[]... elements) {
        return behindType(documentOf(element("id", integer(number)), join(elements)));
    }

    /** An array of so many NULLs: it has 3 bytes with its type's byte, and one for each. */
    static byte[] nulls(int n) {
        byte[] items = new byte[n];
        Arrays.fill(items, (byte) 6);
        return array(items);
    }

    /** A document as the store holds it, of just so many bytes, 13 at least. */
    static byte[] storedOfSize(int number, int size) {
        return stored(number, element("a", nulls(size - 13)));
    }

    static byte[] behindType(byte[] value) {
        return Arrays.copyOfRange(value, 1, value.length);
    }

    static byte[] first(int n, byte[] row) {
        return Arrays.copyOf(row, n);
    }

    static byte[] with(byte[] row, int p, int b) {
        byte[] other = row.clone();
        other[p] = (byte) b;
        return other;
    }

    static byte[] bytes(int... numbers) {
        byte[] row = new byte[numbers.length];
        for (int k = 0; k < numbers.length; k++) {
            row[k] = (byte) numbers[k];
        }
        return row;
    }

    static byte[] join(byte[]... rows) {
        ByteArrayOutputStream all = new ByteArrayOutputStream();
        for (byte[] row : rows) {
            all.writeBytes(row);
        }
        return all.toByteArray();
    }

    static String hex(byte[] row) {
        return "[" + HexFormat.ofDelimiter(" ").formatHex(row) + "]";
    }

    /** A name as path and step take it. */
    static int word(String name) {
        int word = 0;
        for (char letter : name.toCharArray()) {
            word = (word << 8) | letter;
        }
        return word;
    }

    private static byte[] nest(int type, byte[] parts) {
        return join(bytes(type, parts.length + 2), parts, bytes(0));
    }

    // From a text.

    private char next() {
        while (text.charAt(place) == ' ') {
            place++;
        }
        return text.charAt(place);
    }

    private String upTo(String ends) {
        int start = place;
        while (place < text.length() && ends.indexOf(text.charAt(place)) < 0) {
            place++;
        }
        return text.substring(start, place);
    }

    private byte[] readValue() {
        switch (next()) {
            case '{':
                return nest(3, readParts('}'));
            case '[':
                return nest(4, readParts(']'));
            case '\'':
                place++;
                byte[] characters = text(upTo("'"));
                place++;
                return characters;
            default:
                return readWord(upTo(",]}").trim());
        }
    }

    private static byte[] readWord(String word) {
        switch (word) {
            case "null":
                return nothing();
            case "true":
            case "false":
                return bool(word.equals("true"));
            default:
                return integer(Integer.parseInt(word));
        }
    }

    private byte[] readParts(char end) {
        byte[] all = {};
        place++;
        while (next() != end) {
            if (next() == ',') {
                place++;
                next();
            }
            all = join(all, end == '}' ? readElement() : readValue());
        }
        place++;
        return all;
    }

    private byte[] readElement() {
        String name = upTo(":").trim();
        place++;
        return element(name, readValue());
    }
}
