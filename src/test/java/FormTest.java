/**
 * Terms: the form, and where bytes are faulty. Above each test stands the sentence that it tests. A value is looked
 * at where it may stand: as an operand, as an element's value and as an item.
 */
final class FormTest {
    /** A document up to where its second element begins, and up to where the first item in such a one does. */
    private static final byte[] BEFORE_ELEMENT = Written.bytes(99, 1, 'i', 'd', 0, 0, 9);
    private static final byte[] BEFORE_ITEM = Written.bytes(99, 1, 'i', 'd', 0, 0, 9, 4, 'v', 0, 99);

    public static void main(String[] args) {
        types();
        intHasTwoBytes();
        textHasUpToEight();
        textHasItsCharacters();
        textCharacters();
        documentMayBeEmpty();
        nameHasOneToFour();
        nameHasLetters();
        nameEndsWithZero();
        arrayMayBeEmpty();
        boolIsZeroOrOne();
        nullHasNoByte();
        lengthCountsAll();
        lengthGoesUpToEighty();
        noNameTwice();
        nameTwiceAtItsFirstLetter();
        depthOfAnOperand();
        depthOfADocument();
        tooDeepAtItsType();
        lengthAtItsOwnPlace();
        lengthBehindAllWithin();
        missingByte();
        byteBehindTheValue();
        Check.end();
    }

    private static void goodOperand(String what, byte[] operand) {
        Shelf shelf = Shelf.busyWith(operand);
        Check.due(what + ", as a condition's operand", shelf.where(Shelf.EQUAL), 2);
        Check.due(what + ", the buffer is empty then", shelf.size(), 0);
        shelf = Shelf.busyWith(operand);
        Check.due(what + ", as an operator's operand", shelf.change(Shelf.PULL) >= 0, true);
        Check.due(what + ", the buffer is empty then", shelf.size(), 0);
    }

    private static void goodDocument(String what, byte[] document) {
        Shelf shelf = Shelf.busyWith(document);
        int number = ((document[5] & 255) << 8) | (document[6] & 255);
        Check.due(what + ", as a document " + Written.hex(document), shelf.insert(), number);
        Check.due(what + ", the buffer is empty then", shelf.size(), 0);
        Check.due(what + ", count", shelf.count(), 5);
        shelf.dueStored(what + ", as a document", document);
    }

    private static void good(String what, byte[] value) {
        goodOperand(what, value);
        goodDocument(what + ", in an element", Written.stored(9, Written.element("v", value)));
        goodDocument(what + ", in an item", Written.stored(9, Written.element("v", Written.array(value))));
    }

    private static void faultyOperand(String what, byte[] operand, int place) {
        String said = what + ", as an operand " + Written.hex(operand);
        Refused.due(said, () -> Shelf.busyWith(operand), shelf -> shelf.where(Shelf.EQUAL), -1 - place);
        Refused.due(said + " of SET", () -> Shelf.busyWith(operand), shelf -> shelf.change(Shelf.SET), -1 - place);
    }

    private static void faultyDocument(String what, byte[] document, int place) {
        String said = what + ", as a document " + Written.hex(document);
        Refused.due(said, () -> Shelf.busyWith(document), Shelf::insert, -1 - place);
    }

    /** Nothing stands behind the value: what is there is faulty before any more is read. */
    private static void faulty(String what, byte[] value, int place) {
        faultyOperand(what, value, place);
        byte[] element = Written.join(BEFORE_ELEMENT, Written.first(1, value), Written.bytes('v', 0), Written.behindType(value));
        faultyDocument(what + ", in an element", element, place == 0 ? 7 : 9 + place);
        faultyDocument(what + ", in an item", Written.join(BEFORE_ITEM, value), 11 + place);
    }

    /** "A VALUE has a TYPE: 1 INT .. 2 TEXT .. 3 DOCUMENT .. 4 ARRAY .. 5 BOOL .. 6 NULL" */
    private static void types() {
        good("the type 1", Written.bytes(1, 0, 0));
        good("the type 6", Written.bytes(6));
        for (int type : new int[] {7, 8, 127, 128, 255}) {
            faulty("the type " + type, Written.bytes(type), 0);
        }
        faultyOperand("the type 0", Written.bytes(0), 0);
        faultyOperand("the type 0 before a value", Written.bytes(0, 1, 0, 0), 0);
    }

    /** "1 INT: two bytes, a signed number, the higher one first." */
    private static void intHasTwoBytes() {
        for (int number : new int[] {0, 1, 255, 256, 32767, -32768, -1}) {
            good("INT " + number, Written.integer(number));
        }
        faulty("INT without a byte", Written.bytes(1), 1);
        faulty("INT of one byte", Written.bytes(1, 0), 2);
        faultyOperand("INT of three bytes", Written.bytes(1, 0, 0, 0), 3);
        Shelf shelf = Shelf.of("{id:1, a:32767}", "{id:2, a:-32768}", "{id:3, a:-1}", "{id:4, a:256}", "{id:5, a:255}");
        shelf.type(Written.bytes(1, 0x80, 0));
        shelf.go("a");
        Check.due("8000 is the least", shelf.where(Shelf.AT_MOST), 0);
        shelf.dueFound("8000 is -32768", 2);
        shelf.anywhere();
        shelf.type(Written.bytes(1, 0x7f, 0xff));
        Check.due("7fff is the greatest", shelf.where(Shelf.AT_LEAST), 0);
        shelf.dueFound("7fff is 32767", 1);
        shelf.anywhere();
        shelf.type(Written.bytes(1, 0xff, 0xff));
        Check.due("ffff is below 0", shelf.where(Shelf.AT_MOST), 0);
        shelf.dueFound("ffff is -1", 2, 3);
        shelf.anywhere();
        shelf.type(Written.bytes(1, 1, 0));
        Check.due("0100 is above 00ff", shelf.where(Shelf.LESS), 0);
        shelf.dueFound("0100 is 256", 2, 3, 5);
    }

    /** "2 TEXT: a byte n, 0 .. 8" */
    private static void textHasUpToEight() {
        for (int n = 0; n <= 8; n++) {
            good("TEXT of " + n, Written.text("abcdefgh".substring(0, n)));
        }
        faulty("TEXT of 9", Written.text("abcdefghi"), 1);
        for (int n : new int[] {9, 10, 128, 255}) {
            faulty("TEXT that says " + n, Written.bytes(2, n), 1);
        }
        faulty("TEXT without n", Written.bytes(2), 1);
    }

    /** "and n characters" */
    private static void textHasItsCharacters() {
        for (int n = 1; n <= 8; n++) {
            byte[] whole = Written.text("abcdefgh".substring(0, n));
            faulty("TEXT of " + n + " without the last", Written.first(n + 1, whole), n + 1);
            faultyOperand("TEXT of " + n + " and one more", Written.join(whole, Written.bytes('z')), n + 2);
        }
        faultyOperand("TEXT of 0 and one more", Written.bytes(2, 0, 'z'), 2);
    }

    /** "characters 32 .. 126" */
    private static void textCharacters() {
        for (int k = 0; k < 8; k++) {
            byte[] text = Written.text("abcdefgh");
            for (int code : new int[] {32, 33, 125, 126}) {
                good("character " + k + " is " + code, Written.with(text, 2 + k, code));
            }
            for (int code : new int[] {0, 31, 127, 128, 255}) {
                faulty("character " + k + " is " + code, Written.with(text, 2 + k, code), 2 + k);
            }
        }
    }

    /** "3 DOCUMENT: a byte T, ELEMENTS (the type's byte, a NAME .., the value), and a byte 0." */
    private static void documentMayBeEmpty() {
        good("an empty document", Written.bytes(3, 2, 0));
        good("one of one element", Written.value("{a:null}"));
        good("one of each type", Written.value("{a:-1, b:'x', c:{}, d:[], e:true, f:null}"));
        faulty("a document without its 0", Written.bytes(3, 2), 2);
        faulty("a document without T", Written.bytes(3), 1);
        faulty("an element of the type 7", Written.bytes(3, 5, 7, 'a', 0, 0), 2);
        Refused.due("an empty document has no number", () -> Shelf.busyWith(Written.bytes(2, 0)), Shelf::insert, -1000);
    }

    /** An operand that is a document of one NULL by this name, and a document with such an element. */
    private static void goodName(String what, byte[] name) {
        byte[] element = Written.join(Written.bytes(6), name, Written.bytes(0));
        goodOperand(what, Written.documentOf(element));
        goodDocument(what, Written.stored(9, element));
    }

    private static void faultyName(String what, byte[] name, int place) {
        byte[] element = Written.join(Written.bytes(6), name, Written.bytes(0));
        faultyOperand(what, Written.documentOf(element), 3 + place);
        faultyDocument(what, Written.stored(9, element), 8 + place);
    }

    /** "a NAME: 1 .. 4 letters", "a name's fifth letter, the 0 of a name without any" */
    private static void nameHasOneToFour() {
        faultyName("no letter", Written.bytes(), 0);
        goodName("one letter", Written.bytes('a'));
        goodName("two letters", Written.bytes('a', 'b'));
        goodName("three letters", Written.bytes('a', 'b', 'c'));
        goodName("four letters", Written.bytes('a', 'b', 'c', 'd'));
        faultyName("five letters", Written.bytes('a', 'b', 'c', 'd', 'e'), 4);
        faultyName("six letters", Written.bytes('a', 'b', 'c', 'd', 'e', 'f'), 4);
    }

    /** "letters a .. z" */
    private static void nameHasLetters() {
        for (int n = 1; n <= 4; n++) {
            for (int k = 0; k < n; k++) {
                byte[] name = Written.first(n, Written.bytes('m', 'n', 'o', 'p'));
                for (int code : new int[] {'a', 'b', 'y', 'z'}) {
                    goodName("letter " + k + " of " + n + " is " + code, Written.with(name, k, code));
                }
                for (int code : new int[] {1, 'A', 'Z', 'a' - 1, 'z' + 1, '0', ' ', 128, 225, 255}) {
                    faultyName("letter " + k + " of " + n + " is " + code, Written.with(name, k, code), k);
                }
            }
        }
    }

    /** "and a byte 0" */
    private static void nameEndsWithZero() {
        byte[] whole = Written.value("{abcd:null}");
        for (int code : new int[] {1, 6, 'e', 'z', 255}) {
            faultyOperand("behind four letters is " + code, Written.with(whole, 7, code), 7);
        }
        for (int n = 1; n <= 4; n++) {
            faultyOperand("a name of " + n + " without its 0", Written.first(3 + n, whole), 3 + n);
        }
    }

    /** "4 ARRAY: a byte T, ITEMS (the type's byte, the value), and a byte 0." */
    private static void arrayMayBeEmpty() {
        good("an empty array", Written.bytes(4, 2, 0));
        good("one of one item", Written.value("[null]"));
        good("one of each type", Written.value("[-1, 'x', {}, [], true, null]"));
        good("one of equal items", Written.value("[1, 1, 1]"));
        faulty("an array without its 0", Written.bytes(4, 2), 2);
        faulty("an array without T", Written.bytes(4), 1);
        faulty("an item of the type 7", Written.bytes(4, 3, 7, 0), 2);
        faulty("an item with a name", Written.bytes(4, 5, 5, 'a', 0, 0), 3);
    }

    /** "5 BOOL: a byte 0 or 1." */
    private static void boolIsZeroOrOne() {
        good("BOOL 0", Written.bytes(5, 0));
        good("BOOL 1", Written.bytes(5, 1));
        for (int b : new int[] {2, 3, 128, 255}) {
            faulty("BOOL " + b, Written.bytes(5, b), 1);
        }
        faulty("BOOL without its byte", Written.bytes(5), 1);
        faultyOperand("BOOL of two bytes", Written.bytes(5, 0, 0), 2);
    }

    /** "6 NULL: no byte." */
    private static void nullHasNoByte() {
        good("NULL", Written.bytes(6));
        faultyOperand("NULL of one byte", Written.bytes(6, 0), 1);
        good("NULL before NULL", Written.bytes(4, 4, 6, 6, 0));
        faulty("NULL of one byte as an item", Written.bytes(4, 5, 6, 7, 0), 3);
    }

    /** "T is the number of bytes of the whole value, from T itself to that 0." */
    private static void lengthCountsAll() {
        for (String text : new String[] {"{}", "[]", "{a:5}", "[5]", "{a:{b:1, c:'x'}}", "[[1],[null]]"}) {
            byte[] value = Written.value(text);
            int right = value.length - 1;
            good(text + " with T " + right, value);
            for (int wrong : new int[] {0, 1, right - 1, right + 1, 128 + right, 255}) {
                faulty(text + " with T " + wrong, Written.with(value, 1, wrong), 1);
            }
        }
        byte[] document = Written.document("{id:9}");
        goodDocument("T 8", document);
        for (int wrong : new int[] {0, 2, 7, 9, 136, 255}) {
            faultyDocument("T " + wrong + " for 8", Written.with(document, 0, wrong), 0);
        }
    }

    /** "T may be above 60" */
    private static void lengthGoesUpToEighty() {
        for (int size : new int[] {59, 60}) {
            goodDocument(size + " bytes", Written.storedOfSize(9, size));
        }
        for (int size : new int[] {59, 60, 61, 79, 80}) {
            byte[] document = Written.storedOfSize(9, size);
            for (int wrong : new int[] {size - 1, size + 1}) {
                faultyDocument("T " + wrong + " for " + size, Written.with(document, 0, wrong), 0);
            }
        }
        for (int size : new int[] {61, 79, 80}) {
            byte[] document = Written.storedOfSize(9, size);
            Refused.due("T " + size + " is right, but too much", () -> Shelf.busyWith(document), Shelf::insert, -1000);
        }
        for (int size : new int[] {59, 60, 61, 79, 80}) {
            goodOperand("an operand of " + size + " bytes", Written.nulls(size - 3));
            faultyOperand("T too small in " + size + " bytes", Written.with(Written.nulls(size - 3), 1, size - 2), 1);
            faultyOperand("T too large in " + size + " bytes", Written.with(Written.nulls(size - 3), 1, size), 1);
        }
    }

    /** "No document has two elements of one name." */
    private static void noNameTwice() {
        good("names that begin alike", Written.value("{a:1, ab:1, abc:1, abcd:1, b:1}"));
        good("names that begin alike, the longest first", Written.value("{abcd:1, abc:1, ab:1, a:1}"));
        good("names that end alike", Written.value("{d:1, cd:1, bcd:1, abcd:1}"));
        good("names that differ in one letter", Written.value("{abcd:1, abce:1, abdd:1, accd:1, bbcd:1}"));
        good("the name of the document around", Written.value("{a:{a:1}}"));
        good("a name from within a document before", Written.value("{a:{b:1}, b:1}"));
        good("a name within from before", Written.value("{b:1, a:{b:1}}"));
        good("the same names in two items", Written.value("[{b:1}, {b:1}]"));
        faulty("the same name side by side", Written.value("{a:1, a:1}"), 8);
    }

    /** "a name that is there already at its first letter" */
    private static void nameTwiceAtItsFirstLetter() {
        faulty("of four letters", Written.value("{abcd:null, abcd:null}"), 9);
        faulty("of another type", Written.value("{a:null, a:true}"), 6);
        faulty("with others between", Written.value("{a:null, b:null, c:null, a:null}"), 12);
        faulty("behind a document that has it too", Written.value("{a:null, b:{a:null}, a:null}"), 14);
        faulty("within a document", Written.value("{c:{a:null, a:null}}"), 10);
        faultyDocument("id", Written.document("{id:9, id:9}"), 8);
        byte[] wrongValue = Written.bytes(3, 9, 6, 'a', 0, 5, 'a', 0, 7, 0);
        faulty("before what is faulty in its value", wrongValue, 6);
        byte[] wrongType = Written.bytes(3, 9, 6, 'a', 0, 7, 'a', 0, 7, 0);
        faulty("behind what is faulty in its type", wrongType, 5);
        byte[] missing = Written.bytes(3, 9, 6, 'a', 0, 6, 'a');
        faulty("not yet while the name's 0 is missing", missing, 7);
        byte[] ended = Written.bytes(3, 9, 6, 'a', 0, 6, 'a', 0);
        faulty("as soon as that 0 is there", ended, 6);
    }

    /** "a value by itself has the depth 1, .. no document or array is deeper than 4." */
    private static void depthOfAnOperand() {
        for (String four : new String[] {"[[[[]]]]", "[[[{}]]]", "{a:{a:{a:{}}}}", "{a:[{a:[]}]}", "[{a:[{}]}]"}) {
            goodOperand("the depth 4: " + four, Written.value(four));
        }
        for (String scalar : new String[] {"5", "'x'", "true", "null"}) {
            goodOperand("a value that is neither at the depth 5", Written.value("[[[[" + scalar + "]]]]"));
            goodOperand("a value that is neither at the depth 5", Written.value("{a:{a:{a:{a:" + scalar + "}}}}"));
        }
        goodOperand("side by side is not deeper", Written.value("[[[[],[],{}],[[]]],[[[]]]]"));
        faultyOperand("an array at the depth 5", Written.value("[[[[[]]]]]"), 8);
        faultyOperand("a document at the depth 5", Written.value("[[[[{}]]]]"), 8);
        faultyOperand("an array at the depth 5, in documents", Written.value("{a:{a:{a:{a:[]}}}}"), 14);
        faultyOperand("a document at the depth 5, in documents", Written.value("{a:{a:{a:{a:{}}}}}"), 14);
        faultyOperand("at the depth 5, behind others", Written.value("[[[[1,[]]]]]"), 11);
        faultyOperand("at the depth 5, behind one of the depth 4", Written.value("[[[[]]],[[[[]]]]]"), 17);
    }

    /** "an element's or item's value one more than its document or array" */
    private static void depthOfADocument() {
        goodDocument("arrays at the depths 2 to 4", Written.document("{id:9, a:[[[1,'x',true,null]]]}"));
        goodDocument("documents at the depths 2 to 4", Written.document("{id:9, a:{a:{a:{a:1}}}}"));
        goodDocument("side by side is not deeper", Written.document("{id:9, a:[[[],[]],[{}]], b:[[[]]]}"));
        faultyDocument("an array at the depth 5", Written.document("{id:9, a:[[[[]]]]}"), 15);
        faultyDocument("a document at the depth 5", Written.document("{id:9, a:[[[{}]]]}"), 15);
        faultyDocument("a document at the depth 5, in documents", Written.document("{id:9, a:{a:{a:{a:{}}}}}"), 19);
        faultyDocument("an array at the depth 5, in documents", Written.document("{id:9, a:{a:{a:{a:[]}}}}"), 19);
    }

    /** "the type of a document or array that is too deep" */
    private static void tooDeepAtItsType() {
        byte[] start = Written.bytes(4, 99, 4, 99, 4, 99, 4, 99);
        faultyOperand("without anything behind it", Written.join(start, Written.bytes(3)), 8);
        faultyOperand("before its T", Written.join(start, Written.bytes(4, 9, 0)), 8);
        byte[] names = Written.bytes(4, 99, 4, 99, 4, 99, 3, 99);
        faultyOperand("before its name", Written.join(names, Written.bytes(3, 'A', 0)), 8);
        faultyOperand("another type there", Written.join(names, Written.bytes(6, 'A', 0)), 9);
    }

    /** "a T that is wrong, at its own place, when the 0 of its value is reached" */
    private static void lengthAtItsOwnPlace() {
        byte[] whole = Written.document("{id:9, a:{b:[5]}}");
        int[] places = {0, 10, 14};
        for (int place : places) {
            for (int wrong : new int[] {0, 3, 60, 255}) {
                faultyDocument("T at " + place + " is " + wrong, Written.with(whole, place, wrong), place);
            }
        }
        faultyDocument("before what is behind its value", Written.bytes(99, 1, 'i', 'd', 0, 0, 9, 4, 'a', 0, 3, 0, 7), 10);
        faultyDocument("before a byte behind the whole", Written.bytes(9, 1, 'i', 'd', 0, 0, 9, 0, 0), 0);
        faultyDocument("not before its 0 is reached", Written.bytes(9, 1, 'i', 'd', 0, 0, 9), 7);
    }

    /** "so behind all that is faulty within" */
    private static void lengthBehindAllWithin() {
        byte[] whole = Written.document("{id:9, a:{b:[5]}}");
        for (int wrong : new int[] {0, 1, 2, 60, 61, 80, 81, 254, 255}) {
            byte[] both = Written.with(Written.with(whole, 0, wrong), 10, wrong);
            faultyDocument("the T within first", both, 10);
            byte[] all = Written.with(both, 14, wrong);
            faultyDocument("the innermost T first", all, 14);
            faultyDocument("a type within first", Written.with(all, 15, 7), 15);
            faultyDocument("a missing byte within first", Written.first(17, all), 17);
            faultyDocument("a missing 0 first", Written.first(18, all), 18);
            faultyDocument("a name within first", Written.bytes(wrong, 1, 'i', 'd', 0, 0, 9, 6, 'A', 0, 0), 8);
            faultyOperand("an item within first", Written.bytes(4, wrong, 5, 2, 0), 3);
            faultyOperand("an element within first", Written.bytes(3, wrong, 5, 'a', 0, 2, 0), 5);
            faultyOperand("a T alone", Written.bytes(4, wrong), 2);
        }
    }

    /** "or where a byte is missing" */
    private static void missingByte() {
        byte[] document = Written.document("{id:9, a:'xy', bcde:{f:[true,null,-1]}}");
        for (int n = 0; n < document.length; n++) {
            faultyDocument("the first " + n, Written.first(n, document), n);
        }
        goodDocument("all", document);
        byte[] operand = Written.value("{a:'xy', bcde:{f:[true,null,-1]}}");
        for (int n = 0; n < operand.length; n++) {
            faultyOperand("the first " + n, Written.first(n, operand), n);
        }
        goodOperand("all", operand);
        byte[] most = Written.storedOfSize(9, 80);
        faultyDocument("80 bytes and the last 0 is missing", Written.with(most, 79, 6), 80);
        faultyOperand("80 bytes and the last 0 is missing", Written.with(Written.nulls(77), 79, 6), 80);
    }

    /** "or at the first byte behind the value" */
    private static void byteBehindTheValue() {
        byte[] document = Written.document("{id:9}");
        for (int b : new int[] {0, 1, 6, 7, 255}) {
            byte[] behind = Written.bytes(b);
            faultyDocument("behind a document", Written.join(document, behind), 8);
            faultyDocument("two behind a document", Written.join(document, behind, behind), 8);
            for (String value : new String[] {"5", "'x'", "''", "{}", "[]", "{a:5}", "[5]", "true", "null"}) {
                byte[] operand = Written.value(value);
                faultyOperand("behind " + value, Written.join(operand, behind), operand.length);
            }
        }
        faultyDocument("behind 79 bytes", Written.join(Written.storedOfSize(9, 79), Written.bytes(0)), 79);
    }
}
