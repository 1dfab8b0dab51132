/** Promises 12 and 13: index, entries. Above each test stands the sentence that it tests. */
final class IndexTest {
    private static final int[] NO_INDEXES = {-1, 2, 3, 256, Integer.MIN_VALUE, Integer.MAX_VALUE};

    public static void main(String[] args) {
        indexGetsThePath();
        indexReplacesThePath();
        indexHasEntriesForWhatIsThere();
        indexKeepsItsPath();
        indexIsZeroOrOne();
        indexNeedsAPath();
        entriesOfNone();
        entriesOfOneValue();
        entriesOfDifferentValues();
        entriesForEachDocument();
        entriesThroughArrays();
        entriesFollow();
        entriesOfManyValues();
        Check.end();
    }

    private static void dueEntries(String document, String path, int want) {
        for (int i = 0; i < 2; i++) {
            Shelf shelf = Shelf.of(document);
            shelf.index(i, path);
            Check.due("entries of " + path + " in " + document, shelf.entries(i), want);
            Check.due("entries of the other index", shelf.entries(1 - i), -1);
        }
    }

    /** "Index i gets the path" */
    private static void indexGetsThePath() {
        Shelf shelf = Shelf.of("{id:1, a:[1,2], b:{c:[3,4,5], d:{e:6}}}");
        shelf.index(0, "a");
        Check.due("a", shelf.entries(0), 2);
        shelf.index(1, "b.c");
        Check.due("b.c", shelf.entries(1), 3);
        Check.due("a still", shelf.entries(0), 2);
        shelf.index(0, "b.d.e");
        Check.due("b.d.e", shelf.entries(0), 1);
        Check.due("b.c still", shelf.entries(1), 3);
        Check.due("the same path in both", shelf.index(1), true);
        Check.due("b.d.e", shelf.entries(1), 1);
    }

    /** "in place of the one that it had" */
    private static void indexReplacesThePath() {
        Shelf shelf = Shelf.of("{id:1, a:1, b:[1,2]}", "{id:2, a:2}", "{id:3}");
        shelf.index(0, "a");
        shelf.where("a", Shelf.EQUAL, "1");
        shelf.find();
        Check.due("examined by the index", shelf.examined(), 1);
        shelf.index(0, "b");
        Check.due("entries of the new path alone", shelf.entries(0), 2);
        shelf.find();
        Check.due("the old path has no index", shelf.examined(), 3);
        shelf.index(0, "a");
        Check.due("entries as before", shelf.entries(0), 2);
        shelf.find();
        Check.due("examined by the index again", shelf.examined(), 1);
    }

    /** "and its entries for the documents that there are" */
    private static void indexHasEntriesForWhatIsThere() {
        Shelf shelf = new Shelf();
        shelf.index(0, "a");
        Check.due("no documents", shelf.entries(0), 0);
        shelf = Shelf.of("{id:1, a:1}", "{id:2, a:1}");
        shelf.index(0, "a");
        Check.due("two documents", shelf.entries(0), 2);
        shelf = new Shelf();
        for (int number = 0; number < 16; number++) {
            shelf.insert(Written.stored(number, Written.element("a", Written.integer(number))));
        }
        shelf.index(1, "a");
        Check.due("16 documents", shelf.entries(1), 16);
    }

    /** "(path() changes it no more, nor a condition's)" */
    private static void indexKeepsItsPath() {
        Shelf shelf = Shelf.of("{id:1, a:{b:true}, c:[1,2,3]}");
        shelf.index(0, "a.b");
        shelf.go("c");
        Check.due("path changes an index no more", shelf.entries(0), 1);
        shelf.index(1);
        Check.due("c", shelf.entries(1), 3);
        Check.due("step", shelf.step('d', 1), true);
        Check.due("nor does step", shelf.entries(1), 3);
        Check.due("the other one neither", shelf.entries(0), 1);
    }

    /** "false, refused, if i is not 0 or 1" */
    private static void indexIsZeroOrOne() {
        Check.due("index 0", Shelf.busy().index(0), true);
        Check.due("index 1", Shelf.busy().index(1), true);
        for (int i : NO_INDEXES) {
            Refused.dueFalse("index " + i, Shelf::busy, shelf -> shelf.index(i));
        }
    }

    /** "or there is no path yet" */
    private static void indexNeedsAPath() {
        for (int i = -1; i <= 2; i++) {
            int which = i;
            Refused.dueFalse("index " + i + " on a new object", Shelf::new, shelf -> shelf.index(which));
            Refused.dueFalse("index " + i + " without a path", () -> Shelf.of("{id:1}"), shelf -> shelf.index(which));
        }
        Shelf shelf = new Shelf();
        shelf.path('A', 1);
        Check.due("behind a refused path", shelf.index(0), false);
        shelf.path('a', 1);
        Check.due("behind a path", shelf.index(0), true);
    }

    /** "-1 if it has no path or i is not 0 or 1" */
    private static void entriesOfNone() {
        for (int i : NO_INDEXES) {
            Refused.due("entries of " + i, Shelf::busy, shelf -> shelf.entries(i), -1);
        }
        Refused.due("entries of 0 without a path", Shelf::new, shelf -> shelf.entries(0), -1);
        Refused.due("entries of 1 without a path", Shelf::new, shelf -> shelf.entries(1), -1);
        Shelf shelf = Shelf.of("{id:1, a:1}");
        shelf.go("a");
        Check.due("the typed path is no index's", shelf.entries(0), -1);
        shelf.index(1);
        Check.due("index 1 has one", shelf.entries(1), 1);
        Check.due("index 0 has none", shelf.entries(0), -1);
        shelf.index(2);
        Check.due("index 0 has none still", shelf.entries(0), -1);
    }

    /** "each different found value of its path in it that is an INT, TEXT, BOOL or NULL" */
    private static void entriesOfOneValue() {
        dueEntries("{id:1}", "a", 0);
        dueEntries("{id:1, a:0}", "a", 1);
        dueEntries("{id:1, a:''}", "a", 1);
        dueEntries("{id:1, a:false}", "a", 1);
        dueEntries("{id:1, a:null}", "a", 1);
        dueEntries("{id:1, a:{}}", "a", 0);
        dueEntries("{id:1, a:{b:1}}", "a", 0);
        dueEntries("{id:1, a:[]}", "a", 0);
        dueEntries("{id:1, a:[[1],{b:2}]}", "a", 0);
        dueEntries("{id:1}", "id", 1);
    }

    /** "each different found value" */
    private static void entriesOfDifferentValues() {
        dueEntries("{id:1, a:[1]}", "a", 1);
        dueEntries("{id:1, a:[1,1]}", "a", 1);
        dueEntries("{id:1, a:[1,2]}", "a", 2);
        dueEntries("{id:1, a:[1,2,1,2,1]}", "a", 2);
        dueEntries("{id:1, a:[1,257,-255]}", "a", 3);
        dueEntries("{id:1, a:[1,256]}", "a", 2);
        dueEntries("{id:1, a:['','',' ','a','ab','b','ab']}", "a", 5);
        dueEntries("{id:1, a:[true,false,true]}", "a", 2);
        dueEntries("{id:1, a:[null,null]}", "a", 1);
        dueEntries("{id:1, a:[0,'',false,null]}", "a", 4);
        dueEntries("{id:1, a:[1,'1',true]}", "a", 3);
        dueEntries("{id:1, a:[1,[1],{a:1},1]}", "a", 1);
        dueEntries("{id:1, a:[[1],2,{a:3},'4']}", "a", 2);
    }

    /** "An index has an ENTRY for each document and each different found value" */
    private static void entriesForEachDocument() {
        Shelf shelf = Shelf.of("{id:1, a:[1,2]}", "{id:2, a:[2,3,3]}", "{id:3, a:2}", "{id:4}");
        shelf.index(0, "a");
        Check.due("a value of two documents has two entries", shelf.entries(0), 5);
    }

    /** "from an array to those of each item that is a document, in the same way (not of items that are arrays)" */
    private static void entriesThroughArrays() {
        dueEntries("{id:1, a:[{b:1},{b:[1,2]},[{b:3}],4]}", "a.b", 2);
        dueEntries("{id:1, a:[{b:1},{b:[1,2]},[{b:3}],4]}", "a", 1);
        dueEntries("{id:1, a:[{b:1},{b:1}]}", "a.b", 1);
        dueEntries("{id:1, a:[{b:1},{c:1}]}", "a.c", 1);
        dueEntries("{id:1, a:{b:[{c:1},{c:2},{c:1}]}}", "a.b.c", 2);
        dueEntries("{id:1, a:5}", "a.b", 0);
    }

    private static void dueBoth(String what, Shelf shelf, int first, int second) {
        Check.due(what + ": entries(0)", shelf.entries(0), first);
        Check.due(what + ": entries(1)", shelf.entries(1), second);
    }

    /** "How many entries index i has" (whatever comes, goes or changes after it) */
    private static void entriesFollow() {
        Shelf shelf = Shelf.of("{id:1, a:1}");
        shelf.index(0, "a");
        shelf.index(1, "a.b");
        dueBoth("at first", shelf, 1, 0);
        shelf.insert(Written.document("{id:2, a:{b:1}}"));
        dueBoth("behind an insert", shelf, 1, 1);
        shelf.insert(Written.document("{id:2, a:[1,2,3]}"));
        dueBoth("behind a refused insert", shelf, 1, 1);
        Check.due("SET", shelf.change("a", Shelf.SET, "[1,null,{b:7}]"), 2);
        dueBoth("behind SET", shelf, 4, 2);
        Check.due("PUSH", shelf.change("a", Shelf.PUSH, "'x'"), 2);
        dueBoth("behind PUSH", shelf, 6, 2);
        Check.due("PULL", shelf.change("a", Shelf.PULL, "{b:7}"), 2);
        dueBoth("behind PULL", shelf, 6, 0);
        shelf.remove(1);
        dueBoth("behind a remove", shelf, 3, 0);
        shelf.remove(1);
        dueBoth("behind a refused remove", shelf, 3, 0);
        Check.due("UNSET", shelf.change("a", Shelf.UNSET, "null"), 1);
        dueBoth("behind UNSET", shelf, 0, 0);
        Check.due("ADD", shelf.change("a.b", Shelf.ADD, "3"), 1);
        dueBoth("behind ADD", shelf, 0, 1);
        Check.due("a failing ADD", shelf.change("a", Shelf.ADD, "3"), 0);
        dueBoth("behind a failing ADD", shelf, 0, 1);
        shelf.remove(2);
        dueBoth("without documents", shelf, 0, 0);
    }

    /** The most entries that a document can have, in all 16. */
    private static void entriesOfManyValues() {
        Shelf shelf = new Shelf();
        shelf.index(0, "a");
        shelf.index(1, "a");
        byte[][] items = new byte[15][];
        for (int k = 0; k < items.length; k++) {
            items[k] = Written.integer(k);
        }
        byte[] value = Written.join(Written.array(items));
        for (int number = 0; number < 16; number++) {
            byte[] document = Written.stored(number, Written.element("a", value));
            Check.due("insert", shelf.insert(document), number);
        }
        Check.due("entries of index 0", shelf.entries(0), 240);
        Check.due("entries of index 1", shelf.entries(1), 240);
        shelf = new Shelf();
        shelf.insert(Written.document("{id:1, a:['',' ','a','b','c','d','e',true,false,null,1,2,3]}"));
        shelf.index(0, "a");
        Check.due("of each type", shelf.entries(0), 13);
    }
}
