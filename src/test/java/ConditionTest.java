/**
 * Promises 14 and 15: where, anywhere; and Terms: equal values, found values, conditions. Above each test stands the
 * sentence that it tests.
 */
final class ConditionTest {
    private static final String[] ONE_OF_EACH_TYPE = {"5", "'5'", "{a:5}", "[5]", "true", "null"};

    public static void main(String[] args) {
        whereAddsACondition();
        whereOfFaultyBytes();
        whereTakesEightForms();
        whereNeedsAPath();
        whereStopsAtThree();
        whereInOrder();
        whereKeepsItsPathAndOperand();
        anywhereTakesAll();
        equalIsOfOneType();
        equalNumbersTextsTruths();
        equalDocuments();
        equalArrays();
        pathGoesFromDocuments();
        pathGoesThroughArrays();
        pathHasOneToThree();
        lastArraysItemsAreFoundToo();
        equalHolds();
        equalToNull();
        differentHolds();
        comparedNumbers();
        comparedTexts();
        comparedOfOneTypeAlone();
        comparedWithAnotherOperand();
        there();
        sizeHolds();
        sizeOfWhatOneComesTo();
        sizeWithAnotherOperand();
        allMustHold();
        eachDocumentByItself();
        Check.end();
    }

    // A condition must hold or not hold all the same when an index is on its path.

    private static void holds(String document, String path, int form, String operand, boolean want) {
        String what = path + " form " + form + " of " + operand + " in " + document;
        Shelf shelf = Shelf.of(document);
        Check.due(what + ": where", shelf.where(path, form, operand), 0);
        Check.due(what, shelf.find(), want ? 1 : 0);
        shelf.index(0, path);
        Check.due(what + ", with an index", shelf.find(), want ? 1 : 0);
    }

    private static void isEqual(String value, String operand, boolean want) {
        String document = "{id:1, a:" + value + "}";
        holds(document, "a", Shelf.EQUAL, operand, want);
        holds(document, "a", Shelf.DIFFERENT, operand, !want);
    }

    // where and anywhere

    private static Shelf withConditions(int n, byte[] row) {
        Shelf shelf = Shelf.busy();
        shelf.anywhere();
        for (int k = 0; k < n; k++) {
            Check.due("where", shelf.where("a", Shelf.THERE, "true"), k);
        }
        shelf.type(row);
        return shelf;
    }

    /** "A new condition with the path and that form; the buffer is its operand .., and is empty then. Its number, from 0." */
    private static void whereAddsACondition() {
        Shelf shelf = Shelf.of("{id:1, a:1}", "{id:2, a:2}", "{id:3, a:3}", "{id:4, a:4}");
        Check.due("condition 0", shelf.where("a", Shelf.MORE, "1"), 0);
        Check.due("the buffer is empty", shelf.size(), 0);
        shelf.dueFound("condition 0", 2, 3, 4);
        Check.due("condition 1", shelf.where("a", Shelf.LESS, "4"), 1);
        shelf.dueFound("conditions 0 and 1", 2, 3);
        Check.due("condition 2", shelf.where("a", Shelf.DIFFERENT, "2"), 2);
        shelf.dueFound("conditions 0 to 2", 3);
        Check.due("the empty buffer is faulty", shelf.where(Shelf.EQUAL), -1);
    }

    /** "-1 - p if the buffer is faulty at the byte p" (each way to be faulty: FormTest) */
    private static void whereOfFaultyBytes() {
        Refused.due("an empty buffer", () -> Shelf.busyWith(), shelf -> shelf.where(0), -1);
        Refused.due("the type 7", () -> Shelf.busyWith(Written.bytes(7)), shelf -> shelf.where(0), -1);
        Refused.due("a wrong T", () -> Shelf.busyWith(Written.bytes(3, 3, 0)), shelf -> shelf.where(0), -2);
        Refused.due("half a number", () -> Shelf.busyWith(Written.bytes(1, 6)), shelf -> shelf.where(0), -3);
        Refused.due("a document without its type", () -> Shelf.busyWith(Written.document("{id:9}")), shelf -> shelf.where(0), -1);
    }

    /** "-1000 if form is not 0 .. 7" */
    private static void whereTakesEightForms() {
        for (int form = 0; form <= 7; form++) {
            Check.due("form " + form, Shelf.busy().where(form), 2);
        }
        for (int form : new int[] {-1, 8, -2, 9, 256, Integer.MIN_VALUE, Integer.MAX_VALUE}) {
            Refused.due("form " + form, Shelf::busy, shelf -> shelf.where(form), -1000);
        }
    }

    /** "there is no path yet" */
    private static void whereNeedsAPath() {
        for (int form = 0; form <= 7; form++) {
            int which = form;
            Refused.due("no path", () -> {
                Shelf shelf = Shelf.of("{id:1}");
                shelf.type(Written.value("5"));
                return shelf;
            }, shelf -> shelf.where(which), -1000);
        }
        Shelf shelf = new Shelf();
        shelf.put(6, 1);
        shelf.path('A', 1);
        Check.due("behind a refused path", shelf.where(0), -1000);
        shelf.path('a', 1);
        Check.due("behind a path", shelf.where(0), 0);
    }

    /** "CONDITIONS, at most 3", "or there are 3" */
    private static void whereStopsAtThree() {
        for (int n = 0; n < 3; n++) {
            Shelf shelf = withConditions(n, Written.value("5"));
            Check.due("where on " + n, shelf.where(Shelf.EQUAL), n);
            Check.due("how many then", shelf.anywhere(), n + 1);
        }
        for (int form = 0; form <= 7; form++) {
            int which = form;
            Refused.due("where on 3", () -> withConditions(3, Written.value("5")), shelf -> shelf.where(which), -1000);
        }
        Shelf shelf = withConditions(3, Written.value("5"));
        shelf.anywhere();
        Check.due("there is room again", shelf.where(Shelf.EQUAL), 0);
    }

    /** "looked at in this order" */
    private static void whereInOrder() {
        byte[] faulty = Written.bytes(5, 2);
        Refused.due("faulty and form 8", () -> Shelf.busyWith(faulty), shelf -> shelf.where(8), -2);
        Refused.due("faulty and form -1", () -> Shelf.busyWith(faulty), shelf -> shelf.where(-1), -2);
        Refused.due("faulty and there are 3", () -> withConditions(3, faulty), shelf -> shelf.where(0), -2);
        Refused.due("faulty and no path", () -> {
            Shelf shelf = new Shelf();
            shelf.type(faulty);
            return shelf;
        }, shelf -> shelf.where(0), -2);
        Refused.due("empty, no path and form 8", Shelf::new, shelf -> shelf.where(8), -1);
        Refused.due("form 8 and there are 3", () -> withConditions(3, Written.value("5")), shelf -> shelf.where(8), -1000);
    }

    /** "(path() changes it no more, nor a condition's)" */
    private static void whereKeepsItsPathAndOperand() {
        Shelf shelf = Shelf.of("{id:1, a:{b:1}}", "{id:2, a:1}");
        shelf.where("a", Shelf.EQUAL, "1");
        Check.due("step", shelf.step('b', 1), true);
        shelf.dueFound("step changes a condition no more", 2);
        shelf.go("id");
        shelf.dueFound("nor does path", 2);
        shelf.type(Written.value("2"));
        shelf.dueFound("nor does put", 2);
        shelf.anywhere();
        shelf.where("a.b", Shelf.EQUAL, "1");
        shelf.go("a");
        shelf.dueFound("a path of two names", 1);
    }

    /** "No conditions any more; how many there were." */
    private static void anywhereTakesAll() {
        for (int n = 0; n <= 3; n++) {
            Shelf shelf = withConditions(n, Written.value("5"));
            Check.due("anywhere of " + n, shelf.anywhere(), n);
            Check.due("anywhere again", shelf.anywhere(), 0);
            shelf.dueFound("no condition", 1, 2, 3, 4);
            Check.due("numbered from 0 again", shelf.where("id", Shelf.MORE, "3"), 0);
            shelf.dueFound("only the new one", 4);
        }
    }

    // Equal values

    /** "Two values are EQUAL if they are of one type" */
    private static void equalIsOfOneType() {
        for (String value : ONE_OF_EACH_TYPE) {
            for (String operand : ONE_OF_EACH_TYPE) {
                boolean itself = value.equals(operand);
                boolean item = value.equals("[5]") && operand.equals("5");
                isEqual(value, operand, itself || item);
            }
        }
        isEqual("1", "true", false);
        isEqual("0", "false", false);
        isEqual("0", "null", false);
        isEqual("''", "null", false);
        isEqual("{}", "[]", false);
        isEqual("[]", "{}", false);
    }

    /** "with the same number, text, or truth" */
    private static void equalNumbersTextsTruths() {
        for (int number : new int[] {0, 1, 255, 256, 32767, -32768, -1}) {
            isEqual("" + number, "" + number, true);
            isEqual("" + number, "" + (short) (number + 1), false);
            isEqual("" + number, "" + (short) (number - 1), false);
            isEqual("" + number, "" + (short) (number + 256), false);
        }
        isEqual("''", "''", true);
        isEqual("''", "' '", false);
        isEqual("'a'", "''", false);
        isEqual("'abcdefgh'", "'abcdefgh'", true);
        isEqual("'abcdefgh'", "'abcdefgi'", false);
        isEqual("'abcdefgh'", "'bbcdefgh'", false);
        isEqual("'abcdefgh'", "'abcdefg'", false);
        isEqual("'abcdefg'", "'abcdefgh'", false);
        isEqual("'a'", "'A'", false);
        isEqual("true", "true", true);
        isEqual("false", "false", true);
        isEqual("true", "false", false);
        isEqual("false", "true", false);
        isEqual("null", "null", true);
    }

    /** "documents, if they have equal elements (names and values) in the same order" */
    private static void equalDocuments() {
        isEqual("{}", "{}", true);
        isEqual("{x:1, y:2}", "{x:1, y:2}", true);
        isEqual("{x:1, y:2}", "{y:2, x:1}", false);
        isEqual("{x:1, y:2}", "{x:1}", false);
        isEqual("{x:1}", "{x:1, y:2}", false);
        isEqual("{x:1}", "{}", false);
        isEqual("{x:1}", "{y:1}", false);
        isEqual("{x:1}", "{xx:1}", false);
        isEqual("{x:1}", "{x:2}", false);
        isEqual("{x:1}", "{x:true}", false);
        isEqual("{x:null}", "{}", false);
        isEqual("{x:{y:[1]}}", "{x:{y:[1]}}", true);
        isEqual("{x:{y:[1]}}", "{x:{y:[2]}}", false);
        isEqual("{x:{y:1}}", "{y:1}", false);
    }

    /** "arrays, if they have equal items in the same order" */
    private static void equalArrays() {
        isEqual("[]", "[]", true);
        isEqual("[1,2]", "[1,2]", true);
        isEqual("[1,2]", "[2,1]", false);
        isEqual("[1,2]", "[1]", false);
        isEqual("[1]", "[1,2]", false);
        isEqual("[1,1]", "[1]", false);
        isEqual("[1]", "['1']", false);
        isEqual("[{x:1},[2]]", "[{x:1},[2]]", true);
        isEqual("[{x:1},[2]]", "[{x:1},[3]]", false);
    }

    // Found values

    private static void found(String document, String path, String value, boolean want) {
        holds(document, path, Shelf.EQUAL, value, want);
    }

    private static void isThere(String document, String path, boolean want) {
        holds(document, path, Shelf.THERE, "true", want);
        holds(document, path, Shelf.THERE, "false", !want);
    }

    /** "from a document to the value of the element of that name, if there is one" */
    private static void pathGoesFromDocuments() {
        found("{id:1, a:5}", "a", "5", true);
        found("{id:1, ab:5}", "a", "5", false);
        found("{id:1, a:5}", "ab", "5", false);
        found("{id:1}", "id", "1", true);
        found("{id:1, a:{b:5}}", "a.b", "5", true);
        found("{id:1, a:{b:5}}", "b", "5", false);
        found("{id:1, b:5, a:{c:6}}", "a.b", "5", false);
        found("{id:1, a:{b:{c:5}}}", "a.b.c", "5", true);
        found("{id:1, a:{b:{c:5}}}", "a.b", "5", false);
        for (String value : new String[] {"5", "'5'", "true", "null", "{}", "[]", "[5]"}) {
            isThere("{id:1, a:" + value + "}", "a", true);
            isThere("{id:1, a:" + value + "}", "a.b", false);
            isThere("{id:1, a:" + value + "}", "b", false);
        }
        isThere("{id:1}", "id.id", false);
    }

    /** "from an array to those of each item that is a document, in the same way (not of items that are arrays)" */
    private static void pathGoesThroughArrays() {
        String document = "{id:1, a:[{b:1},7,{c:2},{b:[3,4]},[{b:9}]]}";
        found(document, "a.b", "1", true);
        found(document, "a.b", "3", true);
        found(document, "a.b", "4", true);
        found(document, "a.b", "[3,4]", true);
        found(document, "a.b", "7", false);
        found(document, "a.b", "2", false);
        found(document, "a.b", "9", false);
        found(document, "a.c", "2", true);
        isThere("{id:1, a:[]}", "a.b", false);
        isThere("{id:1, a:[{}]}", "a.b", false);
        isThere("{id:1, a:[[{b:1}]]}", "a.b", false);
        isThere("{id:1, a:[{b:1}]}", "a.b", true);
        isThere("{id:1, a:[{b:{c:5}}]}", "a.c", false);
        isThere("{id:1, a:{b:[{c:5}]}}", "a.c", false);
        found("{id:1, a:{b:[{c:5},{c:6}]}}", "a.b.c", "6", true);
        found("{id:1, a:[{b:{c:5}},{b:{c:6}}]}", "a.b.c", "6", true);
    }

    /** "A PATH is 1 .. 3 names." */
    private static void pathHasOneToThree() {
        String document = "{id:1, a:{a:{a:{a:5}}}}";
        found(document, "a", "{a:{a:{a:5}}}", true);
        found(document, "a.a", "{a:{a:5}}", true);
        found(document, "a.a.a", "{a:5}", true);
        found(document, "a.a.a", "5", false);
    }

    /** "and where that is an array, its items are too" */
    private static void lastArraysItemsAreFoundToo() {
        String document = "{id:1, a:[5,'x',true,null,[6],{b:7}]}";
        for (String value : new String[] {"5", "'x'", "true", "null", "[6]", "{b:7}"}) {
            found(document, "a", value, true);
        }
        found(document, "a", "[5,'x',true,null,[6],{b:7}]", true);
        found(document, "a", "6", false);
        found(document, "a", "7", false);
        found(document, "a.b", "7", true);
        found("{id:1, a:[{b:[1,2]},{b:3}]}", "a.b", "2", true);
        isThere("{id:1, a:[]}", "a", true);
    }

    // Conditions

    /** "0 EQUAL: some found value is equal to it" */
    private static void equalHolds() {
        isEqual("[1,2,3]", "1", true);
        isEqual("[1,2,3]", "3", true);
        isEqual("[1,2,3]", "4", false);
        isEqual("[1]", "1", true);
        isEqual("[]", "1", false);
        holds("{id:1}", "a", Shelf.EQUAL, "1", false);
        holds("{id:1}", "a", Shelf.EQUAL, "false", false);
        holds("{id:1}", "a", Shelf.EQUAL, "[]", false);
    }

    /** "if it is NULL, also if there is no found value" */
    private static void equalToNull() {
        isEqual("null", "null", true);
        isEqual("[1,null]", "null", true);
        isEqual("[]", "null", false);
        isEqual("[1]", "null", false);
        isEqual("[[null]]", "null", false);
        isEqual("{b:null}", "null", false);
        holds("{id:1}", "a", Shelf.EQUAL, "null", true);
        holds("{id:1}", "a.b", Shelf.EQUAL, "null", true);
        holds("{id:1, a:{}}", "a.b", Shelf.EQUAL, "null", true);
        holds("{id:1, a:5}", "a.b", Shelf.EQUAL, "null", true);
        holds("{id:1, a:[]}", "a.b", Shelf.EQUAL, "null", true);
        holds("{id:1, a:[{c:1}]}", "a.b", Shelf.EQUAL, "null", true);
        holds("{id:1, a:[{b:1},{c:1}]}", "a.b", Shelf.EQUAL, "null", false);
        holds("{id:1, a:{b:0}}", "a.b", Shelf.EQUAL, "null", false);
    }

    /** "1 DIFFERENT: EQUAL does not hold." */
    private static void differentHolds() {
        isEqual("[1,2]", "2", true);
        holds("{id:1, a:[1,2]}", "a", Shelf.DIFFERENT, "2", false);
        holds("{id:1, a:[1,2]}", "a", Shelf.DIFFERENT, "3", true);
        holds("{id:1}", "a", Shelf.DIFFERENT, "3", true);
        holds("{id:1}", "a", Shelf.DIFFERENT, "null", false);
        holds("{id:1, a:1}", "a", Shelf.DIFFERENT, "null", true);
        holds("{id:1, a:null}", "a", Shelf.DIFFERENT, "null", false);
    }

    private static void compares(String value, String operand, boolean less, boolean same, boolean more) {
        String document = "{id:1, a:" + value + "}";
        holds(document, "a", Shelf.LESS, operand, less);
        holds(document, "a", Shelf.AT_MOST, operand, less || same);
        holds(document, "a", Shelf.MORE, operand, more);
        holds(document, "a", Shelf.AT_LEAST, operand, more || same);
    }

    /** "2 LESS, 3 AT MOST, 4 MORE, 5 AT LEAST: some found value .. is so compared with it" */
    private static void comparedNumbers() {
        int[] rising = {-32768, -32767, -256, -255, -1, 0, 1, 127, 128, 255, 256, 32766, 32767};
        for (int value : rising) {
            for (int operand : rising) {
                compares("" + value, "" + operand, value < operand, value == operand, value > operand);
            }
        }
        compares("[1,5]", "3", true, false, true);
        compares("[3,3]", "3", false, true, false);
        compares("[2,3]", "3", true, true, false);
        compares("[3,4]", "3", false, true, true);
        compares("[]", "3", false, false, false);
    }

    /** "texts by their characters' codes, a beginning of another one first" */
    private static void comparedTexts() {
        String[] rising = {"", " ", "  ", " a", "A", "Z", "a", "a ", "ab", "abc", "abcdefg", "abcdefgh", "abcdefgi", "abd", "b", "~", "~~"};
        for (int value = 0; value < rising.length; value++) {
            for (int operand = 0; operand < rising.length; operand++) {
                compares("'" + rising[value] + "'", "'" + rising[operand] + "'", value < operand, value == operand, value > operand);
            }
        }
        compares("['a','c']", "'b'", true, false, true);
    }

    /** "some found value is an INT or TEXT of the operand's type" */
    private static void comparedOfOneTypeAlone() {
        for (String value : ONE_OF_EACH_TYPE) {
            compares(value, "6", value.equals("5") || value.equals("[5]"), false, false);
            compares(value, "4", false, false, value.equals("5") || value.equals("[5]"));
            compares(value, "'6'", value.equals("'5'"), false, false);
            compares(value, "'4'", false, false, value.equals("'5'"));
        }
        compares("[1,'9']", "5", true, false, false);
        compares("[9,'1']", "'5'", true, false, false);
        compares("[[1]]", "5", false, false, false);
        for (int form = Shelf.LESS; form <= Shelf.AT_LEAST; form++) {
            holds("{id:1}", "a", form, "0", false);
            holds("{id:1}", "a", form, "''", false);
            holds("{id:1, a:null}", "a", form, "0", false);
        }
    }

    /** "with an operand of another type none is" */
    private static void comparedWithAnotherOperand() {
        for (String operand : new String[] {"true", "false", "null", "{}", "[]", "{a:5}", "[5]"}) {
            for (String value : new String[] {"5", "'5'", "true", "false", "null", "{}", "[]", "{a:5}", "[5]"}) {
                compares(value, operand, false, false, false);
            }
            for (int form = Shelf.LESS; form <= Shelf.AT_LEAST; form++) {
                holds("{id:1}", "a", form, operand, false);
            }
        }
    }

    /** "6 THERE: there is a found value (if the operand is BOOL 0: there is none; any other one is as good as another)." */
    private static void there() {
        for (String operand : new String[] {"true", "0", "1", "''", "'x'", "null", "{}", "[]", "[false]"}) {
            for (String value : new String[] {"0", "''", "{}", "[]", "false", "null", "[null]"}) {
                holds("{id:1, a:" + value + "}", "a", Shelf.THERE, operand, true);
            }
            holds("{id:1}", "a", Shelf.THERE, operand, false);
        }
        for (String value : new String[] {"0", "''", "{}", "[]", "false", "null", "[null]"}) {
            holds("{id:1, a:" + value + "}", "a", Shelf.THERE, "false", false);
        }
        holds("{id:1}", "a", Shelf.THERE, "false", true);
        holds("{id:1, a:[]}", "a.b", Shelf.THERE, "false", true);
    }

    /** "7 SIZE: some value .. is an array with so many items as the operand, an INT, says" */
    private static void sizeHolds() {
        for (int n : new int[] {0, 1, 2, 8, 47}) {
            Shelf shelf = new Shelf();
            shelf.insert(Written.stored(1, Written.element("a", Written.nulls(n))));
            for (int wanted : new int[] {n - 1, n, n + 1, -n, n + 256, n - 32768}) {
                shelf.anywhere();
                shelf.where("a", Shelf.SIZE, "" + (short) wanted);
                Check.due(n + " items, size " + wanted, shelf.find(), (short) wanted == n ? 1 : 0);
            }
        }
        holds("{id:1, a:[[1,2,3],{b:4}]}", "a", Shelf.SIZE, "2", true);
        holds("{id:1, a:[[1,2,3],{b:4}]}", "a", Shelf.SIZE, "4", false);
        for (String value : new String[] {"0", "''", "{}", "false", "null"}) {
            holds("{id:1, a:" + value + "}", "a", Shelf.SIZE, "0", false);
        }
        holds("{id:1, a:'ab'}", "a", Shelf.SIZE, "2", false);
        holds("{id:1, a:{x:1, y:2}}", "a", Shelf.SIZE, "2", false);
        holds("{id:1}", "a", Shelf.SIZE, "0", false);
    }

    /** "some value that one comes to in the end" */
    private static void sizeOfWhatOneComesTo() {
        holds("{id:1, a:[[1]]}", "a", Shelf.SIZE, "1", true);
        holds("{id:1, a:[[1,2]]}", "a", Shelf.SIZE, "2", false);
        holds("{id:1, a:[[],1]}", "a", Shelf.SIZE, "0", false);
        holds("{id:1, a:[{b:[1,2]},{b:[3]}]}", "a.b", Shelf.SIZE, "2", true);
        holds("{id:1, a:[{b:[1,2]},{b:[3]}]}", "a.b", Shelf.SIZE, "1", true);
        holds("{id:1, a:[{b:[1,2]},{b:[3]}]}", "a.b", Shelf.SIZE, "3", false);
        holds("{id:1, a:[{b:1},{b:2}]}", "a.b", Shelf.SIZE, "2", false);
    }

    /** "with another operand none is" */
    private static void sizeWithAnotherOperand() {
        for (String operand : new String[] {"''", "'ab'", "{}", "[]", "[1,2]", "false", "true", "null"}) {
            for (String value : new String[] {"[]", "[1]", "[1,2]"}) {
                holds("{id:1, a:" + value + "}", "a", Shelf.SIZE, operand, false);
            }
        }
    }

    /** "A document MATCHES if all conditions hold." */
    private static void allMustHold() {
        for (int total = 0; total <= 3; total++) {
            for (int failing = -1; failing < total; failing++) {
                Shelf shelf = Shelf.of("{id:1, a:5}");
                for (int k = 0; k < total; k++) {
                    Check.due("where", shelf.where("a", Shelf.EQUAL, k == failing ? "6" : "5"), k);
                }
                Check.due(failing + " of " + total + " does not hold", shelf.find(), failing < 0 ? 1 : 0);
            }
        }
    }

    private static void dueFor(Shelf shelf, int form, String operand, int... numbers) {
        shelf.anywhere();
        shelf.where("a", form, operand);
        shelf.dueFound("form " + form + " of " + operand, numbers);
    }

    /** "The FOUND values of a path in a document" (not those of the document that was looked at before it) */
    private static void eachDocumentByItself() {
        String[] documents = {"{id:1, a:[1,2,3]}", "{id:2, a:[1,2]}", "{id:3, a:[1]}", "{id:4, a:[]}", "{id:5}", "{id:6, a:1}"};
        for (boolean indexed : new boolean[] {false, true}) {
            Shelf shelf = Shelf.of(documents);
            if (indexed) {
                shelf.index(0, "a");
                Check.due("entries", shelf.entries(0), 7);
            }
            dueFor(shelf, Shelf.EQUAL, "3", 1);
            dueFor(shelf, Shelf.EQUAL, "2", 1, 2);
            dueFor(shelf, Shelf.EQUAL, "1", 1, 2, 3, 6);
            dueFor(shelf, Shelf.DIFFERENT, "2", 3, 4, 5, 6);
            dueFor(shelf, Shelf.MORE, "1", 1, 2);
            dueFor(shelf, Shelf.AT_LEAST, "3", 1);
            dueFor(shelf, Shelf.THERE, "false", 5);
            dueFor(shelf, Shelf.SIZE, "3", 1);
            dueFor(shelf, Shelf.SIZE, "2", 2);
            dueFor(shelf, Shelf.SIZE, "1", 3);
            dueFor(shelf, Shelf.SIZE, "0", 4);
        }
    }
}
