/** Promises 16 to 18: find, found, examined; and Terms: finding. Above each test stands the sentence that it tests. */
final class FindTest {
    private static final String[] ONE_OF_EACH_TYPE = {"5", "'m'", "{b:5}", "[5]", "true", "null"};

    public static void main(String[] args) {
        findCounts();
        findByRisingNumbers();
        foundTellsEach();
        foundStays();
        examinedBeforeAny();
        examinedByTheLastFinding();
        examinedAllWithoutAnIndex();
        indexHasTheConditionsPath();
        indexForCertainForms();
        indexGivesThoseWithAnEntry();
        examinedEachOnce();
        firstSuchCondition();
        lowerIndexOfTwo();
        otherConditionsStillCount();
        Check.end();
    }

    private static Shelf four() {
        return Shelf.of("{id:30, a:1, b:'x'}", "{id:10, a:[1,2,true]}", "{id:20, a:'m', b:'y'}", "{id:40, b:'x'}");
    }

    private static Shelf sixteen() {
        Shelf shelf = new Shelf();
        for (int k = 0; k < 16; k++) {
            int number = (k * 7 + 3) % 16;
            shelf.insert(Written.stored(number, Written.element("a", Written.integer(number))));
        }
        return shelf;
    }

    /** "Finding: how many documents match" */
    private static void findCounts() {
        Check.due("find of none", new Shelf().find(), 0);
        Check.due("find of one", Shelf.of("{id:1}").find(), 1);
        Check.due("find of sixteen", sixteen().find(), 16);
        Shelf shelf = sixteen();
        for (int least = 0; least <= 16; least++) {
            shelf.anywhere();
            shelf.where("a", Shelf.AT_LEAST, "" + least);
            Check.due("find of those from " + least, shelf.find(), 16 - least);
        }
    }

    /** "they are kept as what was found, by rising numbers" */
    private static void findByRisingNumbers() {
        four().dueFound("all", 10, 20, 30, 40);
        sixteen().dueFound("sixteen", 0, 1, 2, 3, 4, 5, 6, 7, 8, 9, 10, 11, 12, 13, 14, 15);
        Shelf.of("{id:999}", "{id:0}", "{id:256}", "{id:255}").dueFound("by the whole number", 0, 255, 256, 999);
        Shelf shelf = sixteen();
        shelf.index(0, "a");
        shelf.where("a", Shelf.MORE, "12");
        shelf.dueFound("by an index too", 13, 14, 15);
        shelf = Shelf.of("{id:1, a:3}", "{id:2, a:1}", "{id:3, a:2}");
        shelf.index(0, "a");
        shelf.where("a", Shelf.MORE, "0");
        shelf.dueFound("not by the entries' order", 1, 2, 3);
        shelf.remove(2);
        shelf.insert(Written.document("{id:0, a:9}"));
        shelf.insert(Written.document("{id:2, a:7}"));
        shelf.dueFound("behind a remove and an insert", 0, 1, 2, 3);
    }

    /** "Number k (from 0) of what was found last", "-1 if there is none" */
    private static void foundTellsEach() {
        for (int k : new int[] {-1, 0, 1, Integer.MIN_VALUE, Integer.MAX_VALUE}) {
            Refused.due("found(" + k + ") before any", Shelf::new, shelf -> shelf.found(k), -1);
        }
        for (int k : new int[] {-1, 4, 5, 16, Integer.MIN_VALUE, Integer.MAX_VALUE}) {
            Refused.due("found(" + k + ") of four", Shelf::busy, shelf -> shelf.found(k), -1);
        }
        Check.due("found(0) of four", Shelf.busy().found(0), 1);
        Check.due("found(3) of four", Shelf.busy().found(3), 4);
        Shelf shelf = sixteen();
        shelf.find();
        Check.due("found(15) of sixteen", shelf.found(15), 15);
        Check.due("found(16) of sixteen", shelf.found(16), -1);
        shelf.where("a", Shelf.LESS, "1");
        shelf.find();
        Check.due("found(0) of one", shelf.found(0), 0);
        Check.due("found(1) of one, though it was found before", shelf.found(1), -1);
        shelf.where("a", Shelf.MORE, "1");
        shelf.find();
        Check.due("found(0) of none", shelf.found(0), -1);
    }

    /** "(whatever came after it)" */
    private static void foundStays() {
        Shelf shelf = four();
        shelf.where("a", Shelf.EQUAL, "1");
        Check.due("find", shelf.find(), 2);
        shelf.remove(30);
        shelf.anywhere();
        shelf.insert(Written.stored(5));
        shelf.index(0, "a");
        Check.due("change", shelf.change("b", Shelf.SET, "null"), 4);
        shelf.where("a", Shelf.EQUAL, "9");
        shelf.fetch(10);
        Check.due("found(0)", shelf.found(0), 10);
        Check.due("found(1), though it went", shelf.found(1), 30);
        Check.due("found(2)", shelf.found(2), -1);
        shelf.anywhere();
        shelf.dueFound("find again", 5, 10, 20, 40);
    }

    /** "0 if there was none" */
    private static void examinedBeforeAny() {
        Check.due("on a new object", new Shelf().examined(), 0);
        Shelf shelf = four();
        shelf.index(0, "a");
        shelf.where("a", Shelf.EQUAL, "1");
        Check.due("with all but a finding", shelf.examined(), 0);
        shelf.type(Written.bytes(9));
        shelf.change(Shelf.SET);
        Check.due("behind a refused change", shelf.examined(), 0);
    }

    /** "the last finding, by find or change" */
    private static void examinedByTheLastFinding() {
        Shelf shelf = four();
        shelf.index(0, "a");
        Check.due("find", shelf.find(), 4);
        Check.due("by find", shelf.examined(), 4);
        shelf.where("a", Shelf.EQUAL, "1");
        Check.due("not by where", shelf.examined(), 4);
        Check.due("change", shelf.change("z", Shelf.UNSET, "null"), 2);
        Check.due("by change", shelf.examined(), 2);
        shelf.remove(10);
        shelf.insert(Written.stored(1));
        shelf.anywhere();
        Check.due("not by remove, insert, anywhere", shelf.examined(), 2);
        Check.due("a change that fails on all", shelf.change("id.z", Shelf.SET, "1"), 0);
        Check.due("by a change that fails", shelf.examined(), 4);
        shelf.where("a", Shelf.EQUAL, "77");
        Check.due("find of none", shelf.find(), 0);
        Check.due("by a find of none", shelf.examined(), 0);
        shelf.anywhere();
        shelf.find();
        shelf.where("a", Shelf.EQUAL, "77");
        Check.due("change of none", shelf.change("z", Shelf.SET, "1"), 0);
        Check.due("by a change of none", shelf.examined(), 0);
    }

    /** "otherwise all are" */
    private static void examinedAllWithoutAnIndex() {
        Shelf shelf = sixteen();
        Check.due("find", shelf.find(), 16);
        Check.due("no condition", shelf.examined(), 16);
        shelf.index(0, "a");
        shelf.find();
        Check.due("no condition, with an index", shelf.examined(), 16);
        shelf.where("id", Shelf.EQUAL, "3");
        Check.due("find", shelf.find(), 1);
        Check.due("a condition on another path", shelf.examined(), 16);
        shelf.remove(3);
        Check.due("find", shelf.find(), 0);
        Check.due("as many as there are", shelf.examined(), 15);
    }

    private static void dueExamined(String indexed, String asked, boolean used) {
        Shelf shelf = Shelf.of("{id:1, a:{b:{c:1}}, ab:1}", "{id:2, a:[{b:1},{c:1}]}", "{id:3, b:1, c:1}", "{id:4, a:{a:1}}");
        shelf.index(1, indexed);
        shelf.where(asked, Shelf.EQUAL, "1000");
        Check.due("find", shelf.find(), 0);
        Check.due("an index on " + indexed + ", a condition on " + asked, shelf.examined(), used ? 0 : 4);
    }

    /** "if some condition can use an index, that has the condition's path" */
    private static void indexHasTheConditionsPath() {
        String[] paths = {"a", "b", "c", "ab", "id", "a.b", "a.a", "b.a", "a.c", "a.b.c", "a.b.b", "a.a.a", "b.c"};
        for (String indexed : paths) {
            for (String asked : paths) {
                dueExamined(indexed, asked, indexed.equals(asked));
            }
        }
    }

    /** "and the condition is of the forms 2 to 5 with an INT or TEXT, or EQUAL with an INT, TEXT or BOOL" */
    private static void indexForCertainForms() {
        for (int form = 0; form <= 7; form++) {
            for (int type = 1; type <= 6; type++) {
                boolean used = form == 0 && (type == 1 || type == 2 || type == 5) || form >= 2 && form <= 5 && type <= 2;
                // No value of the path a is there, so that no entry makes any condition hold.
                Shelf shelf = Shelf.of("{id:1}", "{id:2}", "{id:3}");
                shelf.index(0, "a");
                shelf.where("a", form, ONE_OF_EACH_TYPE[type - 1]);
                shelf.find();
                Check.due("form " + form + " of the type " + type, shelf.examined(), used ? 0 : 3);
            }
        }
    }

    private static void examines(int form, String operand, int... numbers) {
        for (int i = 0; i < 2; i++) {
            Shelf shelf = Shelf.of("{id:1, a:4}", "{id:2, a:5}", "{id:3, a:6}", "{id:4, a:'4'}", "{id:5, a:'5'}", "{id:6, a:'6'}",
                "{id:7, a:true}", "{id:8, a:false}", "{id:9, a:null}", "{id:10, a:[4,'5',[5]]}", "{id:11, a:{a:5}}", "{id:12}");
            shelf.index(i, "a");
            shelf.where("a", form, operand);
            shelf.dueFound("form " + form + " of " + operand, numbers);
            Check.due("examined by form " + form + " of " + operand, shelf.examined(), numbers.length);
        }
    }

    /** "the documents are EXAMINED that have an entry there that makes the condition hold" */
    private static void indexGivesThoseWithAnEntry() {
        examines(Shelf.EQUAL, "5", 2);
        examines(Shelf.EQUAL, "4", 1, 10);
        examines(Shelf.EQUAL, "7");
        examines(Shelf.EQUAL, "'5'", 5, 10);
        examines(Shelf.EQUAL, "''");
        examines(Shelf.EQUAL, "true", 7);
        examines(Shelf.EQUAL, "false", 8);
        examines(Shelf.LESS, "5", 1, 10);
        examines(Shelf.LESS, "4");
        examines(Shelf.AT_MOST, "5", 1, 2, 10);
        examines(Shelf.AT_MOST, "3");
        examines(Shelf.MORE, "5", 3);
        examines(Shelf.MORE, "6");
        examines(Shelf.AT_LEAST, "5", 2, 3);
        examines(Shelf.AT_LEAST, "7");
        examines(Shelf.LESS, "'5'", 4);
        examines(Shelf.AT_MOST, "'5'", 4, 5, 10);
        examines(Shelf.MORE, "'5'", 6);
        examines(Shelf.AT_LEAST, "'5'", 5, 6, 10);
        examines(Shelf.MORE, "''", 4, 5, 6, 10);
        examines(Shelf.LESS, "''");
    }

    /** "(each once)" */
    private static void examinedEachOnce() {
        Shelf shelf = Shelf.of("{id:1, a:[1,2,3,4]}", "{id:2, a:[{b:1},{b:2}]}", "{id:3, a:7}");
        shelf.index(0, "a");
        shelf.index(1, "a.b");
        shelf.where("a", Shelf.MORE, "1");
        Check.due("find", shelf.find(), 2);
        Check.due("several entries of one document", shelf.examined(), 2);
        shelf.anywhere();
        shelf.where("a.b", Shelf.AT_LEAST, "1");
        Check.due("find", shelf.find(), 1);
        Check.due("several items of one array", shelf.examined(), 1);
    }

    private static Shelf twoIndexes() {
        Shelf shelf = four();
        shelf.index(0, "b");
        shelf.index(1, "a");
        return shelf;
    }

    /** "the first such condition uses it" */
    private static void firstSuchCondition() {
        Shelf shelf = twoIndexes();
        shelf.where("a", Shelf.MORE, "1");
        shelf.where("b", Shelf.EQUAL, "'x'");
        shelf.find();
        Check.due("the first one, though its index is the higher one", shelf.examined(), 1);
        shelf = twoIndexes();
        shelf.where("b", Shelf.EQUAL, "'x'");
        shelf.where("a", Shelf.MORE, "1");
        shelf.find();
        Check.due("the first one, though the second has fewer", shelf.examined(), 2);
        shelf = twoIndexes();
        shelf.where("id", Shelf.MORE, "0");
        shelf.where("a", Shelf.THERE, "true");
        shelf.where("b", Shelf.EQUAL, "'y'");
        shelf.find();
        Check.due("the third one, for those before it can use none", shelf.examined(), 1);
        shelf = twoIndexes();
        shelf.where("a", Shelf.EQUAL, "null");
        shelf.where("a", Shelf.EQUAL, "1");
        shelf.where("b", Shelf.EQUAL, "'y'");
        shelf.find();
        Check.due("the second one", shelf.examined(), 2);
        shelf = twoIndexes();
        shelf.where("a", Shelf.AT_LEAST, "1");
        shelf.where("a", Shelf.EQUAL, "2");
        shelf.find();
        Check.due("the first of two on one path", shelf.examined(), 2);
    }

    /** "(the lower index of two)" */
    private static void lowerIndexOfTwo() {
        Shelf shelf = four();
        shelf.index(0, "a");
        shelf.index(1, "a");
        shelf.where("a", Shelf.EQUAL, "2");
        Check.due("find", shelf.find(), 1);
        Check.due("both on the path", shelf.examined(), 1);
        shelf.index(0, "b");
        Check.due("find", shelf.find(), 1);
        Check.due("the higher one alone", shelf.examined(), 1);
        shelf.index(1, "b");
        Check.due("find", shelf.find(), 1);
        Check.due("none any more", shelf.examined(), 4);
        shelf.index(0, "a");
        Check.due("find", shelf.find(), 1);
        Check.due("the lower one alone", shelf.examined(), 1);
    }

    /** "A document MATCHES if all conditions hold." */
    private static void otherConditionsStillCount() {
        Shelf shelf = twoIndexes();
        shelf.where("a", Shelf.EQUAL, "1");
        shelf.where("b", Shelf.EQUAL, "'x'");
        shelf.dueFound("both hold", 30);
        Check.due("examined are those of the index, not those that match", shelf.examined(), 2);
        shelf.where("id", Shelf.LESS, "30");
        shelf.dueFound("none matches");
        Check.due("examined all the same", shelf.examined(), 2);
    }
}
