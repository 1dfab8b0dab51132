/** Promise 19: change; and Terms: operators. Above each test stands the sentence that it tests. */
final class ChangeTest {
    /** Values that are no documents, an array with a document in it among them. */
    private static final String[] NO_DOCUMENTS = {"5", "'x'", "true", "null", "[]", "[{b:1, c:1}]"};
    private static final String[] PATHS = {"a", "a.b", "a.b.c"};
    private static final int[] ALL_BUT_UNSET = {Shelf.SET, Shelf.ADD, Shelf.PUSH, Shelf.PULL};

    public static void main(String[] args) {
        changesWhatMatches();
        bufferIsEmptyThen();
        countsWhatDidNotFail();
        failedOnesStay();
        foundStays();
        faultyBuffer();
        unsetLooksAtNoOperand();
        operatorIsZeroToFour();
        needsAPath();
        notIdAlone();
        inOrder();
        setReplaces();
        setKeepsThePlace();
        unsetTakesTheElement();
        addAdds();
        addStaysInRange();
        addNeedsInts();
        pushAppends();
        pushNeedsAnArray();
        pullTakesEqualItems();
        pullNeedsAnArray();
        newElementIsLast();
        documentsComeOnTheWay();
        noDocumentOnTheWay();
        nothingOnTheWay();
        atMostSixtyBytes();
        shorterFromSixty();
        notTooDeep();
        Check.end();
    }

    /** The document 1 is changed, and no other; without an after the operator fails. */
    private static void change(String before, String path, int operator, String operand, String after) {
        String what = "operator " + operator + " at " + path + " of " + operand + " on " + before;
        Shelf shelf = Shelf.of(before, "{id:2, a:{b:{c:[1]}}}");
        shelf.where("id", Shelf.EQUAL, "1");
        Check.due(what, shelf.change(path, operator, operand), after == null ? 0 : 1);
        Check.due(what + ": the buffer is empty", shelf.size(), 0);
        shelf.dueStored(what, after == null ? before : after);
        shelf.dueStored(what + ", another one", "{id:2, a:{b:{c:[1]}}}");
        Check.due(what + ": count", shelf.count(), 2);
    }

    private static void fails(String before, String path, int operator, String operand) {
        change(before, path, operator, operand, null);
    }

    private static void doesNothing(String document, String path, int operator, String operand) {
        change(document, path, operator, operand, document);
    }

    // The call

    /** "Finding, and the operator is done at the path on each document that matches" */
    private static void changesWhatMatches() {
        Shelf shelf = Shelf.of("{id:1, a:1}", "{id:2, a:2}", "{id:3, a:3}");
        shelf.where("a", Shelf.AT_LEAST, "2");
        Check.due("two match", shelf.change("a", Shelf.ADD, "1"), 2);
        shelf.dueStored("not this one", "{id:1, a:1}");
        shelf.dueStored("this one", "{id:2, a:3}");
        shelf.dueStored("this one too", "{id:3, a:4}");
        shelf.where("a", Shelf.LESS, "4");
        Check.due("one matches", shelf.change("a", Shelf.SET, "9"), 1);
        shelf.dueStored("it matches no more", "{id:2, a:9}");
        Check.due("none matches", shelf.change("a", Shelf.SET, "7"), 0);
        shelf.dueStored("and none changes", "{id:2, a:9}");
        shelf.anywhere();
        Check.due("without conditions all do", shelf.change("b", Shelf.SET, "7"), 3);
        shelf.dueStored("the first", "{id:1, a:1, b:7}");
        shelf.dueStored("the last", "{id:3, a:4, b:7}");
        Check.due("no documents", new Shelf().change("a", Shelf.SET, "5"), 0);
    }

    /** "the buffer is the operand .., and is empty then, for UNSET, too" */
    private static void bufferIsEmptyThen() {
        for (int operator = Shelf.SET; operator <= Shelf.PULL; operator++) {
            Shelf shelf = Shelf.of("{id:1, a:[5]}");
            Check.due("operator " + operator, shelf.change("b.c", operator, "5"), 1);
            Check.due("done: size", shelf.size(), 0);
            Check.due("operator " + operator + " failing", shelf.change("id.c", operator, "5"), 0);
            Check.due("failed: size", shelf.size(), 0);
            shelf.remove(1);
            Check.due("operator " + operator + " on none", shelf.change("b.c", operator, "5"), 0);
            Check.due("on none: size", shelf.size(), 0);
        }
    }

    /** "How many it did not fail on" */
    private static void countsWhatDidNotFail() {
        Shelf shelf = Shelf.of("{id:1, a:1}", "{id:2, a:'x'}", "{id:3}", "{id:4, a:32767}", "{id:5, a:[]}");
        Check.due("ADD on five", shelf.change("a", Shelf.ADD, "1"), 2);
        Check.due("PUSH on five", shelf.change("a", Shelf.PUSH, "1"), 1);
        Check.due("UNSET on five", shelf.change("a", Shelf.UNSET, "1"), 5);
        Check.due("UNSET where there is none does not fail", shelf.change("a", Shelf.UNSET, "1"), 5);
        shelf = new Shelf();
        for (int number = 0; number < 16; number++) {
            shelf.insert(Written.stored(number));
        }
        Check.due("on sixteen", shelf.change("a", Shelf.SET, "1"), 16);
        Check.due("on sixteen, failing", shelf.change("a.b", Shelf.SET, "1"), 0);
    }

    /** "one on which it fails stays as it is" */
    private static void failedOnesStay() {
        Shelf shelf = Shelf.of("{id:1, a:1}", "{id:2, a:'x'}", "{id:3}", "{id:4, a:32767}");
        Check.due("ADD", shelf.change("a", Shelf.ADD, "1"), 2);
        shelf.dueStored("before one that fails", "{id:1, a:2}");
        shelf.dueStored("failed", "{id:2, a:'x'}");
        shelf.dueStored("behind one that fails", "{id:3, a:1}");
        shelf.dueStored("failed too", "{id:4, a:32767}");
    }

    /** "(what find found last stays, too)" */
    private static void foundStays() {
        Shelf shelf = Shelf.of("{id:1}", "{id:2}", "{id:3}");
        shelf.where("id", Shelf.LESS, "3");
        shelf.dueFound("find", 1, 2);
        shelf.anywhere();
        shelf.where("id", Shelf.EQUAL, "3");
        Check.due("change", shelf.change("a", Shelf.SET, "1"), 1);
        Check.due("found(0)", shelf.found(0), 1);
        Check.due("found(1)", shelf.found(1), 2);
        Check.due("found(2)", shelf.found(2), -1);
        shelf = Shelf.of("{id:1}");
        shelf.change("a", Shelf.SET, "1");
        Check.due("a change finds nothing to keep", shelf.found(0), -1);
    }

    /** "-1 - p if the buffer is faulty at the byte p" (each way to be faulty: FormTest) */
    private static void faultyBuffer() {
        for (int operator : ALL_BUT_UNSET) {
            String what = "operator " + operator;
            Refused.due(what + ", empty", () -> Shelf.busyWith(), shelf -> shelf.change(operator), -1);
            Refused.due(what + ", byte 0", () -> Shelf.busyWith(Written.bytes(7)), shelf -> shelf.change(operator), -1);
            Refused.due(what + ", byte 1", () -> Shelf.busyWith(Written.bytes(4, 3, 0)), shelf -> shelf.change(operator), -2);
            Refused.due(what + ", byte 3", () -> Shelf.busyWith(Written.bytes(1, 0, 5, 0)), shelf -> shelf.change(operator), -4);
        }
    }

    /** "for UNSET, 1, it is not looked at" */
    private static void unsetLooksAtNoOperand() {
        byte[][] rows = {{}, Written.bytes(7), Written.bytes(0), Written.bytes(1, 0), Written.value("5"), new byte[80]};
        for (byte[] row : rows) {
            Shelf shelf = Shelf.of("{id:1, a:5}");
            shelf.go("a");
            shelf.type(row);
            Check.due("UNSET with " + Written.hex(row), shelf.change(Shelf.UNSET), 1);
            Check.due("the buffer is empty then", shelf.size(), 0);
            shelf.dueStored("the element went", "{id:1}");
        }
    }

    /** "-1000 if operator is not 0 .. 4" */
    private static void operatorIsZeroToFour() {
        for (int operator = 0; operator <= 4; operator++) {
            Check.due("operator " + operator, Shelf.busy().change(operator) >= 0, true);
        }
        for (int operator : new int[] {-1, 5, -2, 6, 256, 257, Integer.MIN_VALUE, Integer.MAX_VALUE}) {
            Refused.due("operator " + operator, Shelf::busy, shelf -> shelf.change(operator), -1000);
        }
    }

    private static Shelf withoutPath(byte[] row) {
        Shelf shelf = Shelf.of("{id:1, a:5}");
        shelf.type(row);
        return shelf;
    }

    /** "there is no path yet" */
    private static void needsAPath() {
        for (int operator = 0; operator <= 4; operator++) {
            int which = operator;
            Refused.due("operator " + operator + " without a path", () -> withoutPath(Written.value("5")),
                shelf -> shelf.change(which), -1000);
        }
        Shelf shelf = withoutPath(Written.value("5"));
        shelf.path('A', 1);
        Check.due("behind a refused path", shelf.change(Shelf.SET), -1000);
        shelf.path('a', 1);
        Check.due("behind a path", shelf.change(Shelf.SET), 1);
    }

    private static Shelf busyAt(String path, byte[] row) {
        Shelf shelf = Shelf.busyWith(row);
        shelf.go(path);
        return shelf;
    }

    /** "or it is id alone" */
    private static void notIdAlone() {
        for (int operator = 0; operator <= 4; operator++) {
            int which = operator;
            Refused.due("operator " + operator + " on id", () -> busyAt("id", Written.value("5")), shelf -> shelf.change(which), -1000);
            Check.due("id.id is not id alone", busyAt("id.id", Written.value("5")).change(operator), 0);
        }
        change("{id:1}", "id.a", Shelf.SET, "5", null);
        change("{id:1}", "a.id", Shelf.SET, "5", "{id:1, a:{id:5}}");
        change("{id:1}", "a.b.id", Shelf.ADD, "5", "{id:1, a:{b:{id:5}}}");
        change("{id:1}", "idd", Shelf.SET, "5", "{id:1, idd:5}");
        change("{id:1}", "i", Shelf.SET, "5", "{id:1, i:5}");
        change("{id:1}", "d", Shelf.SET, "5", "{id:1, d:5}");
    }

    /** "(looked at in this order; in these cases nothing changes, and nothing is examined)" */
    private static void inOrder() {
        byte[] faulty = Written.bytes(5, 2);
        for (int operator : new int[] {-1, 5}) {
            Refused.due("faulty and operator " + operator, () -> Shelf.busyWith(faulty), shelf -> shelf.change(operator), -2);
            Refused.due("empty and operator " + operator, () -> Shelf.busyWith(), shelf -> shelf.change(operator), -1);
        }
        for (int operator : ALL_BUT_UNSET) {
            Refused.due("faulty and no path", () -> withoutPath(faulty), shelf -> shelf.change(operator), -2);
            Refused.due("faulty and id alone", () -> busyAt("id", faulty), shelf -> shelf.change(operator), -2);
        }
        Refused.due("UNSET, faulty and no path", () -> withoutPath(faulty), shelf -> shelf.change(Shelf.UNSET), -1000);
        Refused.due("UNSET, faulty and id alone", () -> busyAt("id", faulty), shelf -> shelf.change(Shelf.UNSET), -1000);
        Refused.due("UNSET, empty and id alone", () -> busyAt("id", new byte[0]), shelf -> shelf.change(Shelf.UNSET), -1000);
        Shelf shelf = Shelf.of("{id:1}", "{id:2}");
        shelf.find();
        shelf.remove(2);
        shelf.type(faulty);
        shelf.go("a");
        Check.due("faulty", shelf.change(Shelf.SET), -2);
        Check.due("nothing was examined by it", shelf.examined(), 2);
    }

    // The operators

    /** "0 SET: the last name's value becomes the operand." */
    private static void setReplaces() {
        String[] values = {"5", "'x'", "''", "{}", "{x:1}", "[]", "[1,2]", "true", "null"};
        for (String value : values) {
            for (String operand : values) {
                change("{id:1, a:" + value + "}", "a", Shelf.SET, operand, "{id:1, a:" + operand + "}");
            }
            change("{id:1, b:1}", "a", Shelf.SET, value, "{id:1, b:1, a:" + value + "}");
            change("{id:1, a:{b:5}}", "a.b", Shelf.SET, value, "{id:1, a:{b:" + value + "}}");
            change("{id:1, a:{b:{c:5}}}", "a.b.c", Shelf.SET, value, "{id:1, a:{b:{c:" + value + "}}}");
        }
    }

    /** "(.. What SET gives stands in the old place.)" */
    private static void setKeepsThePlace() {
        change("{id:1, a:1, b:2, c:3}", "a", Shelf.SET, "'xyz'", "{id:1, a:'xyz', b:2, c:3}");
        change("{id:1, a:1, b:2, c:3}", "b", Shelf.SET, "null", "{id:1, a:1, b:null, c:3}");
        change("{id:1, a:1, b:2, c:3}", "c", Shelf.SET, "[4]", "{id:1, a:1, b:2, c:[4]}");
        change("{id:1, a:{x:1, b:2, y:3}, z:4}", "a.b", Shelf.SET, "'q'", "{id:1, a:{x:1, b:'q', y:3}, z:4}");
    }

    /** "1 UNSET: the element goes." */
    private static void unsetTakesTheElement() {
        for (String value : new String[] {"5", "'x'", "{b:1}", "[1,2]", "true", "null"}) {
            change("{id:1, a:" + value + "}", "a", Shelf.UNSET, "null", "{id:1}");
        }
        change("{id:1, a:1, b:2, c:3}", "a", Shelf.UNSET, "null", "{id:1, b:2, c:3}");
        change("{id:1, a:1, b:2, c:3}", "b", Shelf.UNSET, "null", "{id:1, a:1, c:3}");
        change("{id:1, a:1, b:2, c:3}", "c", Shelf.UNSET, "null", "{id:1, a:1, b:2}");
        change("{id:1, a:{b:1}}", "a.b", Shelf.UNSET, "null", "{id:1, a:{}}");
        change("{id:1, a:{b:{c:1, d:2}, e:3}}", "a.b.c", Shelf.UNSET, "null", "{id:1, a:{b:{d:2}, e:3}}");
        change("{id:1, ab:1, a:2}", "a", Shelf.UNSET, "null", "{id:1, ab:1}");
    }

    /** "2 ADD: an INT operand is added to an INT; if there is no element, it becomes the operand." */
    private static void addAdds() {
        change("{id:1, a:2, b:3}", "a", Shelf.ADD, "5", "{id:1, a:7, b:3}");
        change("{id:1, a:2}", "a", Shelf.ADD, "0", "{id:1, a:2}");
        change("{id:1, a:2}", "a", Shelf.ADD, "-3", "{id:1, a:-1}");
        change("{id:1, a:255}", "a", Shelf.ADD, "1", "{id:1, a:256}");
        change("{id:1, a:-256}", "a", Shelf.ADD, "-1", "{id:1, a:-257}");
        change("{id:1, a:{b:2}}", "a.b", Shelf.ADD, "5", "{id:1, a:{b:7}}");
        for (int number : new int[] {0, 1, -1, 32767, -32768}) {
            change("{id:1, b:3}", "a", Shelf.ADD, "" + number, "{id:1, b:3, a:" + number + "}");
        }
    }

    /** "or the sum is not -32768 .. 32767" */
    private static void addStaysInRange() {
        int[] numbers = {-32768, -32767, -16384, -16385, -1, 0, 1, 16383, 16384, 32766, 32767};
        for (int number : numbers) {
            for (int operand : numbers) {
                int sum = number + operand;
                boolean fits = sum >= -32768 && sum <= 32767;
                change("{id:1, a:" + number + "}", "a", Shelf.ADD, "" + operand, fits ? "{id:1, a:" + sum + "}" : null);
            }
        }
    }

    /** "for ADD if there is another value than an INT, the operand is no INT (with or without an element)" */
    private static void addNeedsInts() {
        for (String other : new String[] {"'1'", "''", "{}", "[]", "[1]", "true", "false", "null"}) {
            fails("{id:1, a:" + other + "}", "a", Shelf.ADD, "1");
            fails("{id:1, a:1}", "a", Shelf.ADD, other);
            fails("{id:1, a:" + other + "}", "a", Shelf.ADD, other);
            fails("{id:1}", "a", Shelf.ADD, other);
            fails("{id:1}", "a.b.c", Shelf.ADD, other);
            fails("{id:1, a:{}}", "a.b", Shelf.ADD, other);
        }
    }

    /** "3 PUSH: the operand comes behind the items of an array; if there is no element, it becomes an array of the operand." */
    private static void pushAppends() {
        for (String operand : new String[] {"5", "'x'", "{}", "[]", "[1]", "true", "null"}) {
            change("{id:1, a:[], b:1}", "a", Shelf.PUSH, operand, "{id:1, a:[" + operand + "], b:1}");
            change("{id:1, a:[1,2]}", "a", Shelf.PUSH, operand, "{id:1, a:[1,2," + operand + "]}");
            change("{id:1, b:1}", "a", Shelf.PUSH, operand, "{id:1, b:1, a:[" + operand + "]}");
        }
        change("{id:1, a:[1]}", "a", Shelf.PUSH, "1", "{id:1, a:[1,1]}");
        change("{id:1, a:{b:[1], c:2}}", "a.b", Shelf.PUSH, "9", "{id:1, a:{b:[1,9], c:2}}");
    }

    /** "for PUSH and PULL if there is another value than an array" */
    private static void pushNeedsAnArray() {
        for (String value : new String[] {"5", "'x'", "{}", "true", "null"}) {
            for (String operand : new String[] {"5", "[]", "null"}) {
                fails("{id:1, a:" + value + "}", "a", Shelf.PUSH, operand);
                fails("{id:1, a:{b:" + value + "}}", "a.b", Shelf.PUSH, operand);
            }
        }
    }

    /** "4 PULL: all items of an array that are equal to the operand go." */
    private static void pullTakesEqualItems() {
        change("{id:1, a:[1], b:2}", "a", Shelf.PULL, "1", "{id:1, a:[], b:2}");
        change("{id:1, a:[1,2,1,1,[1]]}", "a", Shelf.PULL, "1", "{id:1, a:[2,[1]]}");
        change("{id:1, a:[1,2,3]}", "a", Shelf.PULL, "1", "{id:1, a:[2,3]}");
        change("{id:1, a:[1,2,3]}", "a", Shelf.PULL, "3", "{id:1, a:[1,2]}");
        change("{id:1, a:[null,null]}", "a", Shelf.PULL, "null", "{id:1, a:[]}");
        change("{id:1, a:[1,[1],[2]]}", "a", Shelf.PULL, "[1]", "{id:1, a:[1,[2]]}");
        change("{id:1, a:[{b:1},{c:1},{b:1}]}", "a", Shelf.PULL, "{b:1}", "{id:1, a:[{c:1}]}");
        change("{id:1, a:['a','ab','a']}", "a", Shelf.PULL, "'a'", "{id:1, a:['ab']}");
        change("{id:1, a:{b:[true,false]}}", "a.b", Shelf.PULL, "false", "{id:1, a:{b:[true]}}");
        doesNothing("{id:1, a:[]}", "a", Shelf.PULL, "1");
        doesNothing("{id:1, a:[1]}", "a", Shelf.PULL, "[1]");
        doesNothing("{id:1, a:[1,'1',[1]]}", "a", Shelf.PULL, "true");
        doesNothing("{id:1, a:[{b:1, c:2}]}", "a", Shelf.PULL, "{c:2, b:1}");
        doesNothing("{id:1, a:[[1,2]]}", "a", Shelf.PULL, "2");
    }

    /** "for PUSH and PULL if there is another value than an array" */
    private static void pullNeedsAnArray() {
        for (String value : new String[] {"5", "'x'", "{}", "true", "null"}) {
            fails("{id:1, a:" + value + "}", "a", Shelf.PULL, value);
            fails("{id:1, a:" + value + "}", "a", Shelf.PULL, "7");
            fails("{id:1, a:{b:" + value + "}}", "a.b", Shelf.PULL, "7");
        }
    }

    /** "An element that comes is the last one of its document" */
    private static void newElementIsLast() {
        for (int operator : new int[] {Shelf.SET, Shelf.ADD, Shelf.PUSH}) {
            String value = operator == Shelf.PUSH ? "[6]" : "6";
            change("{id:1}", "a", operator, "6", "{id:1, a:" + value + "}");
            change("{id:1, z:1, b:2}", "a", operator, "6", "{id:1, z:1, b:2, a:" + value + "}");
            change("{id:1, a:{z:1}, b:2}", "a.b", operator, "6", "{id:1, a:{z:1, b:" + value + "}, b:2}");
            change("{id:1, a:{}, b:2}", "a.b", operator, "6", "{id:1, a:{b:" + value + "}, b:2}");
            change("{id:1, a:{b:{}}, b:2}", "a.b.c", operator, "6", "{id:1, a:{b:{c:" + value + "}}, b:2}");
        }
    }

    /** "for SET, ADD and PUSH documents that are not there on the way come too" */
    private static void documentsComeOnTheWay() {
        for (int operator : new int[] {Shelf.SET, Shelf.ADD, Shelf.PUSH}) {
            String value = operator == Shelf.PUSH ? "[6]" : "6";
            change("{id:1, z:1}", "a.b", operator, "6", "{id:1, z:1, a:{b:" + value + "}}");
            change("{id:1, z:1}", "a.b.c", operator, "6", "{id:1, z:1, a:{b:{c:" + value + "}}}");
            change("{id:1, a:{z:1}, y:1}", "a.b.c", operator, "6", "{id:1, a:{z:1, b:{c:" + value + "}}, y:1}");
            change("{id:1}", "abcd.efgh.ijkl", operator, "6", "{id:1, abcd:{efgh:{ijkl:" + value + "}}}");
        }
    }

    /** "An operator FAILS if on the way there is a value that is no document (an array neither)" */
    private static void noDocumentOnTheWay() {
        for (int operator = Shelf.SET; operator <= Shelf.PULL; operator++) {
            for (String value : NO_DOCUMENTS) {
                fails("{id:1, a:" + value + "}", "a.b", operator, "1");
                fails("{id:1, a:" + value + "}", "a.b.c", operator, "1");
                fails("{id:1, a:{b:" + value + "}}", "a.b.c", operator, "1");
            }
            fails("{id:1, a:[{b:[1]}]}", "a.b", operator, "1");
            fails("{id:1}", "id.b", operator, "1");
        }
        change("{id:1, a:5}", "a", Shelf.SET, "1", "{id:1, a:1}");
        change("{id:1, a:{b:5}}", "a.b", Shelf.SET, "1", "{id:1, a:{b:1}}");
    }

    /** "(UNSET and PULL do nothing, and don't fail, where there is no element, or no document on the way.)" */
    private static void nothingOnTheWay() {
        for (int operator : new int[] {Shelf.UNSET, Shelf.PULL}) {
            doesNothing("{id:1}", "a", operator, "1");
            doesNothing("{id:1, ab:[1]}", "a", operator, "1");
            doesNothing("{id:1}", "a.b", operator, "1");
            doesNothing("{id:1}", "a.b.c", operator, "1");
            doesNothing("{id:1, a:{}}", "a.b", operator, "1");
            doesNothing("{id:1, a:{}}", "a.b.c", operator, "1");
            doesNothing("{id:1, a:{b:{}}}", "a.b.c", operator, "1");
            doesNothing("{id:1, b:{c:[1]}}", "a.b.c", operator, "1");
        }
    }

    /** Just so many bytes: the array p takes what the rest leaves. */
    private static String ofSize(int size, String rest) {
        int without = Written.document("{id:1, p:[]" + rest + "}").length;
        return "{id:1, p:[" + ",null".repeat(size - without).replaceFirst(",", "") + "]" + rest + "}";
    }

    /** On both sides of the boundary: what comes out has 60 bytes, or would have 61 or more. */
    private static void growsUpToSixty(String path, int operator, String operand, String before, String after) {
        int growth = Written.document("{id:1, p:[]" + after + "}").length - Written.document("{id:1, p:[]" + before + "}").length;
        change(ofSize(59 - growth, before), path, operator, operand, ofSize(59, after));
        change(ofSize(60 - growth, before), path, operator, operand, ofSize(60, after));
        for (int size = 61 - growth; size <= 60; size++) {
            fails(ofSize(size, before), path, operator, operand);
        }
    }

    /** "or if the document would have more than 60 bytes" */
    private static void atMostSixtyBytes() {
        growsUpToSixty("a", Shelf.SET, "null", "", ", a:null");
        growsUpToSixty("a", Shelf.SET, "'abcdefgh'", "", ", a:'abcdefgh'");
        growsUpToSixty("a", Shelf.SET, "5", ", a:null", ", a:5");
        growsUpToSixty("a", Shelf.SET, "[1,2]", ", a:5, b:6", ", a:[1,2], b:6");
        growsUpToSixty("a", Shelf.SET, "''", ", a:null", ", a:''");
        growsUpToSixty("a.b", Shelf.SET, "null", "", ", a:{b:null}");
        growsUpToSixty("a.b.c", Shelf.SET, "null", "", ", a:{b:{c:null}}");
        growsUpToSixty("a.b.c", Shelf.SET, "null", ", a:{}", ", a:{b:{c:null}}");
        growsUpToSixty("a", Shelf.ADD, "5", "", ", a:5");
        growsUpToSixty("a.b.c", Shelf.ADD, "5", "", ", a:{b:{c:5}}");
        growsUpToSixty("a", Shelf.PUSH, "null", "", ", a:[null]");
        growsUpToSixty("a", Shelf.PUSH, "null", ", a:[]", ", a:[null]");
        growsUpToSixty("a", Shelf.PUSH, "[1]", ", a:[5], b:6", ", a:[5,[1]], b:6");
        growsUpToSixty("a.b.c", Shelf.PUSH, "5", "", ", a:{b:{c:[5]}}");
        growsUpToSixty("abcd.efgh.ijkl", Shelf.PUSH, "5", "", ", abcd:{efgh:{ijkl:[5]}}");
        longestOperand();
    }

    private static void longestOperand() {
        for (int size : new int[] {49, 50, 51, 77, 79, 80}) {
            for (int operator : new int[] {Shelf.SET, Shelf.PUSH}) {
                Shelf shelf = Shelf.of("{id:1}");
                shelf.go("a");
                shelf.type(Written.nulls(size - 3));
                int whole = 8 + 2 + size + (operator == Shelf.PUSH ? 3 : 0);
                Check.due("an operand of " + size, shelf.change(operator), whole <= 60 ? 1 : 0);
                Check.due("the document then", shelf.fetch(1), whole <= 60 ? whole : 8);
                shelf.go("abcd.efgh.ijkl");
                shelf.type(Written.nulls(size - 3));
                Check.due("an operand of " + size + " far away", shelf.change(operator), 0);
            }
        }
    }

    /** What does not grow beyond 60 bytes does not fail. */
    private static void shorterFromSixty() {
        change(ofSize(60, ", a:5"), "a", Shelf.ADD, "1", ofSize(60, ", a:6"));
        change(ofSize(60, ", a:5"), "a", Shelf.SET, "'x'", ofSize(60, ", a:'x'"));
        change(ofSize(60, ", a:5"), "a", Shelf.SET, "null", ofSize(58, ", a:null"));
        change(ofSize(60, ", a:5"), "a", Shelf.UNSET, "null", ofSize(55, ""));
        change(ofSize(60, ", a:[1,2]"), "a", Shelf.PULL, "2", ofSize(57, ", a:[1]"));
        change(ofSize(60, ", a:[1]"), "a", Shelf.PULL, "2", ofSize(60, ", a:[1]"));
        change(ofSize(60, ""), "a", Shelf.PULL, "2", ofSize(60, ""));
        change(ofSize(60, ""), "a.b", Shelf.UNSET, "2", ofSize(60, ""));
        change(ofSize(60, ""), "p", Shelf.PULL, "null", ofSize(13, ""));
    }

    /** A value that has just so many documents and arrays in one another. */
    private static String nested(int depth, boolean arrays) {
        String value = arrays ? "7" : "null";
        for (int k = 0; k < depth; k++) {
            value = arrays ? "[" + value + "]" : "{x:" + value + "}";
        }
        return value;
    }

    private static String within(int names, String value) {
        String[] starts = {", a:", ", a:{b:", ", a:{b:{c:"};
        return "{id:1" + starts[names - 1] + value + "}".repeat(names - 1) + "}";
    }

    /** "or be too deep" */
    private static void notTooDeep() {
        for (int names = 1; names <= 3; names++) {
            for (boolean arrays : new boolean[] {true, false}) {
                for (int depth = 0; depth <= 4; depth++) {
                    String operand = nested(depth, arrays);
                    // The document itself is at the depth 1, so the value at the path is one deeper than its names say.
                    String set = names + depth <= 4 ? within(names, operand) : null;
                    change("{id:1}", PATHS[names - 1], Shelf.SET, operand, set);
                    change(within(names, "5"), PATHS[names - 1], Shelf.SET, operand, set);
                    String pushed = names + 1 + depth <= 4 ? within(names, "[" + operand + "]") : null;
                    change("{id:1}", PATHS[names - 1], Shelf.PUSH, operand, pushed);
                    change(within(names, "[]"), PATHS[names - 1], Shelf.PUSH, operand, pushed);
                }
            }
            change("{id:1}", PATHS[names - 1], Shelf.ADD, "5", within(names, "5"));
        }
        change("{id:1, a:{b:{c:{d:1}}}}", "a", Shelf.SET, "[[[]]]", "{id:1, a:[[[]]]}");
        change("{id:1, a:[[[]],1]}", "a", Shelf.PULL, "[[[]]]", "{id:1, a:[[[]],1]}");
    }
}
