/**
 * Documents in a strict form of bytes, kept by their numbers, with conditions and indexes on paths
 * and operators that change documents. Every row is made once, with the object: no call makes another.
 */
public final class PathShelf {
    private static final int INT = 1;
    private static final int TEXT = 2;
    private static final int DOCUMENT = 3;
    private static final int ARRAY = 4;
    private static final int BOOL = 5;
    private static final int NULL = 6;

    private static final int EQUAL = 0;
    private static final int DIFFERENT = 1;
    private static final int LESS = 2;
    private static final int AT_MOST = 3;
    private static final int MORE = 4;
    private static final int AT_LEAST = 5;
    private static final int THERE = 6;
    private static final int SIZE = 7;

    private static final int SET = 0;
    private static final int UNSET = 1;
    private static final int ADD = 2;
    private static final int PUSH = 3;
    private static final int PULL = 4;

    private static final int MOST_IN_BUFFER = 80;
    private static final int MOST_IN_DOCUMENT = 60;
    private static final int MOST_DOCUMENTS = 16;
    private static final int MOST_CONDITIONS = 3;
    private static final int INDEXES = 2;
    private static final int MOST_NAMES = 3;
    private static final int MOST_LETTERS = 4;
    private static final int MOST_DEPTH = 4;
    private static final int MOST_IN_TEXT = 8;
    private static final int MOST_NUMBER = 999;

    private static final int NONE = -1;
    private static final int NO_NAME = 0;
    /** The name id, packed as every name is: its letters' codes, the first one highest. */
    private static final int ID = ('i' << 8) | 'd';

    private static final int REFUSED = -1000;
    private static final int NUMBER_USED = -1001;
    private static final int STORE_FULL = -1002;

    private final Row buffer = new Row(MOST_IN_BUFFER);
    private final Path typed = new Path();
    private final Store store = new Store();
    private final Path[] indexPaths = new Path[INDEXES];
    private final Condition[] conditions = new Condition[MOST_CONDITIONS];
    private int conditionTotal;
    private final Tree tree = new Tree();
    private final Trail trail = new Trail();
    private final Editor editor = new Editor();
    /** The places in the store of what the last finding matched. */
    private final int[] matches = new int[MOST_DOCUMENTS];
    private int matchTotal;
    private int examinedTotal;
    private final int[] foundNumbers = new int[MOST_DOCUMENTS];
    private int foundTotal;

    public PathShelf() {
        for (int i = 0; i < INDEXES; i++) {
            indexPaths[i] = new Path();
        }
        for (int i = 0; i < MOST_CONDITIONS; i++) {
            conditions[i] = new Condition();
        }
    }

    public boolean put(int word, int n) {
        if (n < 1 || n > 4 || buffer.length + n > MOST_IN_BUFFER) {
            return false;
        }
        for (int k = n - 1; k >= 0; k--) {
            buffer.add((word >>> (8 * k)) & 255);
        }
        return true;
    }

    public boolean set(int p, int b) {
        if (p < 0 || p >= buffer.length || b < 0 || b > 255) {
            return false;
        }
        buffer.cells[p] = b;
        return true;
    }

    public boolean cut(int n) {
        if (n < 0 || n > buffer.length) {
            return false;
        }
        buffer.length = n;
        return true;
    }

    public int size() {
        return buffer.length;
    }

    public int at(int p) {
        return buffer.cell(p);
    }

    public boolean path(int word, int n) {
        int name = nameOf(word, n);
        if (name == NO_NAME) {
            return false;
        }
        typed.length = 0;
        return typed.add(name);
    }

    public boolean step(int word, int n) {
        int name = nameOf(word, n);
        return name != NO_NAME && typed.length > 0 && typed.add(name);
    }

    public int insert() {
        int fault = tree.readDocument(buffer);
        if (fault != NONE) {
            return -1 - fault;
        }
        int number = tree.documentNumber();
        if (buffer.length > MOST_IN_DOCUMENT || number == NONE) {
            return REFUSED;
        }
        if (store.placeOf(number) != NONE) {
            return NUMBER_USED;
        }
        if (!store.keep(buffer, number)) {
            return STORE_FULL;
        }
        buffer.length = 0;
        return number;
    }

    public int fetch(int number) {
        int place = store.placeOf(number);
        if (place == NONE) {
            return NONE;
        }
        buffer.become(store.documents[place]);
        return buffer.length;
    }

    public boolean remove(int number) {
        int place = store.placeOf(number);
        if (place == NONE) {
            return false;
        }
        store.drop(place);
        return true;
    }

    public boolean index(int i) {
        if (i < 0 || i >= INDEXES || typed.length == 0) {
            return false;
        }
        indexPaths[i].become(typed);
        return true;
    }

    public int entries(int i) {
        if (i < 0 || i >= INDEXES || indexPaths[i].length == 0) {
            return NONE;
        }
        int total = 0;
        for (int k = 0; k < store.total; k++) {
            tree.readDocument(store.documents[k]);
            trail.follow(tree, indexPaths[i]);
            total += trail.entryTotal(tree);
        }
        return total;
    }

    public int where(int form) {
        int fault = tree.readOperand(buffer);
        if (fault != NONE) {
            return -1 - fault;
        }
        if (form < EQUAL || form > SIZE || typed.length == 0 || conditionTotal >= MOST_CONDITIONS) {
            return REFUSED;
        }
        conditions[conditionTotal].become(typed, form, buffer);
        conditionTotal++;
        buffer.length = 0;
        return conditionTotal - 1;
    }

    public int anywhere() {
        int total = conditionTotal;
        conditionTotal = 0;
        return total;
    }

    public int find() {
        seek();
        for (int k = 0; k < matchTotal; k++) {
            foundNumbers[k] = store.numbers[matches[k]];
        }
        foundTotal = matchTotal;
        return foundTotal;
    }

    public int found(int k) {
        return k >= 0 && k < foundTotal ? foundNumbers[k] : NONE;
    }

    public int examined() {
        return examinedTotal;
    }

    public int change(int operator) {
        if (operator != UNSET) {
            int fault = tree.readOperand(buffer);
            if (fault != NONE) {
                return -1 - fault;
            }
        }
        if (operator < SET || operator > PULL || typed.length == 0 || typed.isOnly(ID)) {
            return REFUSED;
        }
        seek();
        int done = 0;
        for (int k = 0; k < matchTotal; k++) {
            tree.readDocument(store.documents[matches[k]]);
            if (editor.apply(tree, typed, operator, buffer)) {
                done++;
            }
        }
        buffer.length = 0;
        return done;
    }

    public int count() {
        return store.total;
    }

    private static int nameOf(int word, int n) {
        if (n < 1 || n > MOST_LETTERS) {
            return NO_NAME;
        }
        int name = NO_NAME;
        for (int k = n - 1; k >= 0; k--) {
            int letter = (word >>> (8 * k)) & 255;
            if (letter < 'a' || letter > 'z') {
                return NO_NAME;
            }
            name = (name << 8) | letter;
        }
        return name;
    }

    /**
     * An index is not kept as a table: its entries are the found values themselves, so the documents
     * with an entry that makes a condition hold are just those on which the condition holds.
     */
    private void seek() {
        int leader = leadingCondition();
        examinedTotal = 0;
        matchTotal = 0;
        for (int k = 0; k < store.total; k++) {
            tree.readDocument(store.documents[k]);
            if (leader != NONE && !conditions[leader].holds(tree, trail)) {
                continue;
            }
            examinedTotal++;
            boolean all = true;
            for (int c = 0; c < conditionTotal && all; c++) {
                all = conditions[c].holds(tree, trail);
            }
            if (all) {
                matches[matchTotal] = k;
                matchTotal++;
            }
        }
    }

    /** The first condition that uses an index. Which of two like indexes it is makes no difference. */
    private int leadingCondition() {
        for (int k = 0; k < conditionTotal; k++) {
            if (conditions[k].suitsIndex() && hasIndex(conditions[k].path)) {
                return k;
            }
        }
        return NONE;
    }

    private boolean hasIndex(Path path) {
        for (int i = 0; i < INDEXES; i++) {
            if (indexPaths[i].isSame(path)) {
                return true;
            }
        }
        return false;
    }

    /** Bytes, at most as many as the row was made for. */
    private static final class Row {
        final int[] cells;
        int length;

        Row(int most) {
            cells = new int[most];
        }

        /** -1 where there is no byte: then a missing byte fails every test that a wrong one fails. */
        int cell(int p) {
            return p >= 0 && p < length ? cells[p] : NONE;
        }

        void add(int b) {
            if (length < cells.length) {
                cells[length] = b;
                length++;
            }
        }

        void addName(int name) {
            for (int k = MOST_LETTERS - 1; k >= 0; k--) {
                int letter = (name >>> (8 * k)) & 255;
                if (letter != 0) {
                    add(letter);
                }
            }
            add(0);
        }

        void addPart(Row from, int start, int end) {
            for (int p = start; p < end; p++) {
                add(from.cell(p));
            }
        }

        void become(Row other) {
            length = 0;
            addPart(other, 0, other.length);
        }

        int signedNumber(int p) {
            return (short) ((cell(p) << 8) | cell(p + 1));
        }

        /**
         * Compares bytes start .. end - 1 with those of the other row from otherStart to its end: below 0
         * if these come first, 0 if they are the same. A beginning of the other ones comes first.
         */
        int compare(int start, int end, Row other, int otherStart) {
            int mine = end - start;
            int others = other.length - otherStart;
            for (int k = 0; k < mine && k < others; k++) {
                int difference = cell(start + k) - other.cell(otherStart + k);
                if (difference != 0) {
                    return difference;
                }
            }
            return mine - others;
        }
    }

    /** Names, packed. A path without any is none. */
    private static final class Path {
        final int[] names = new int[MOST_NAMES];
        int length;

        boolean add(int name) {
            if (length >= MOST_NAMES) {
                return false;
            }
            names[length] = name;
            length++;
            return true;
        }

        int name(int k) {
            return k >= 0 && k < length ? names[k] : NO_NAME;
        }

        int lastName() {
            return name(length - 1);
        }

        void become(Path other) {
            length = other.length;
            System.arraycopy(other.names, 0, names, 0, MOST_NAMES);
        }

        boolean isOnly(int name) {
            return length == 1 && names[0] == name;
        }

        boolean isSame(Path other) {
            if (length != other.length) {
                return false;
            }
            for (int k = 0; k < length; k++) {
                if (names[k] != other.names[k]) {
                    return false;
                }
            }
            return true;
        }
    }

    /** The documents, by rising numbers. */
    private static final class Store {
        final Row[] documents = new Row[MOST_DOCUMENTS];
        final int[] numbers = new int[MOST_DOCUMENTS];
        int total;

        Store() {
            for (int k = 0; k < MOST_DOCUMENTS; k++) {
                documents[k] = new Row(MOST_IN_DOCUMENT);
            }
        }

        int placeOf(int number) {
            for (int k = 0; k < total; k++) {
                if (numbers[k] == number) {
                    return k;
                }
            }
            return NONE;
        }

        boolean keep(Row bytes, int number) {
            if (total >= MOST_DOCUMENTS) {
                return false;
            }
            Row row = documents[total];
            int place = total;
            for (; place > 0 && numbers[place - 1] > number; place--) {
                documents[place] = documents[place - 1];
                numbers[place] = numbers[place - 1];
            }
            row.become(bytes);
            documents[place] = row;
            numbers[place] = number;
            total++;
            return true;
        }

        /** The row of the one that goes is kept behind the others, for the next one that comes. */
        void drop(int place) {
            if (place < 0 || place >= total) {
                return;
            }
            Row row = documents[place];
            total--;
            for (int k = place; k < total; k++) {
                documents[k] = documents[k + 1];
                numbers[k] = numbers[k + 1];
            }
            documents[total] = row;
        }
    }

    /**
     * The values of a row as they are read, each behind the document or array that holds it. Node 0 is
     * the whole. The tree is that of the row's bytes only as long as the row is not changed.
     */
    private static final class Tree {
        final int[] types = new int[MOST_IN_BUFFER];
        final int[] names = new int[MOST_IN_BUFFER];
        /** Where the element or item begins, with its type's byte. */
        final int[] starts = new int[MOST_IN_BUFFER];
        /** Where the value itself begins. */
        final int[] places = new int[MOST_IN_BUFFER];
        /** The place behind the value. */
        final int[] ends = new int[MOST_IN_BUFFER];
        final int[] parents = new int[MOST_IN_BUFFER];
        int total;
        Row row = new Row(0);
        private int place;
        private int fault;
        /** The innermost document or array whose 0 has not been reached, and how many there are. */
        private int open;
        private int depth;

        /** Reads a document without a type's byte; the place where it is faulty, or NONE. */
        int readDocument(Row bytes) {
            begin(bytes);
            return readOn(readContent(addNode(DOCUMENT, NO_NAME, 0)));
        }

        /** Reads a type's byte and a value; the place where they are faulty, or NONE. */
        int readOperand(Row bytes) {
            begin(bytes);
            return readOn(readPart());
        }

        /** The number of a document that was read without a fault, or NONE if it has none as it must. */
        int documentNumber() {
            if (total < 2 || names[1] != ID || types[1] != INT) {
                return NONE;
            }
            int number = row.signedNumber(places[1]);
            return number >= 0 && number <= MOST_NUMBER ? number : NONE;
        }

        /** The element of that name in a document, or NONE. */
        int element(int document, int name) {
            for (int k = document + 1; k < total; k++) {
                if (parents[k] == document && names[k] == name) {
                    return k;
                }
            }
            return NONE;
        }

        int itemTotal(int array) {
            int items = 0;
            for (int k = array + 1; k < total; k++) {
                if (parents[k] == array) {
                    items++;
                }
            }
            return items;
        }

        /** Equal values have the same bytes, for the form leaves no choice in writing one. */
        boolean isEqual(int node, Row operand) {
            return types[node] == operand.cell(0) && row.compare(places[node], ends[node], operand, 1) == 0;
        }

        boolean areEqual(int node, int other) {
            int length = ends[node] - places[node];
            if (types[node] != types[other] || ends[other] - places[other] != length) {
                return false;
            }
            for (int k = 0; k < length; k++) {
                if (row.cell(places[node] + k) != row.cell(places[other] + k)) {
                    return false;
                }
            }
            return true;
        }

        private void begin(Row bytes) {
            row = bytes;
            place = 0;
            fault = NONE;
            total = 0;
            open = NONE;
            depth = 0;
        }

        /** Reads until the whole is closed. Each round but the last one reads a byte at least. */
        private int readOn(boolean begunWell) {
            boolean well = begunWell;
            for (int k = 0; k < row.length && well && open != NONE; k++) {
                well = row.cell(place) == 0 ? closeNest() : readPart();
            }
            if (well && place < row.length) {
                fault = place;
            }
            return fault;
        }

        private boolean faultAt(int p) {
            fault = p;
            return false;
        }

        private boolean readBytes(int n, int least, int most) {
            for (int k = 0; k < n; k++) {
                int b = place < row.length ? row.cells[place] : NONE;
                if (b < least || b > most) {
                    fault = place;
                    return false;
                }
                place++;
            }
            return true;
        }

        /** An element, an item, or an operand. */
        private boolean readPart() {
            int start = place;
            int type = row.cell(place);
            boolean tooDeep = (type == DOCUMENT || type == ARRAY) && depth >= MOST_DEPTH;
            if (tooDeep || !readBytes(1, INT, NULL)) {
                return faultAt(start);
            }
            int name = NO_NAME;
            if (open != NONE && types[open] == DOCUMENT) {
                name = readName();
                if (name == NO_NAME) {
                    return false;
                }
            }
            return readContent(addNode(type, name, start));
        }

        /** NO_NAME if it is faulty. */
        private int readName() {
            int first = place;
            int name = NO_NAME;
            for (int k = 0; k < MOST_LETTERS && (k == 0 || row.cell(place) != 0); k++) {
                if (!readBytes(1, 'a', 'z')) {
                    return NO_NAME;
                }
                name = (name << 8) | row.cell(place - 1);
            }
            if (!readBytes(1, 0, 0)) {
                return NO_NAME;
            }
            if (element(open, name) != NONE) {
                faultAt(first);
                return NO_NAME;
            }
            return name;
        }

        /** The new node, or NONE if there is no room (no row that is read has so many values). */
        private int addNode(int type, int name, int start) {
            if (total >= MOST_IN_BUFFER) {
                return NONE;
            }
            types[total] = type;
            names[total] = name;
            starts[total] = start;
            places[total] = place;
            parents[total] = open;
            total++;
            return total - 1;
        }

        /** The value's bytes; of a document or array only T, for its parts are read one by one. */
        private boolean readContent(int node) {
            if (node == NONE) {
                return faultAt(place);
            }
            boolean well = true;
            switch (types[node]) {
                case INT:
                    well = readBytes(2, 0, 255);
                    break;
                case TEXT:
                    well = readBytes(1, 0, MOST_IN_TEXT) && readBytes(row.cell(place - 1), 32, 126);
                    break;
                case BOOL:
                    well = readBytes(1, 0, 1);
                    break;
                case NULL:
                    break;
                default:
                    well = readBytes(1, 0, 255);
                    open = node;
                    depth++;
                    break;
            }
            ends[node] = place;
            return well;
        }

        /** T is looked at only here, so that what is faulty within is told before it. */
        private boolean closeNest() {
            int start = places[open];
            place++;
            if (row.cell(start) != place - start) {
                return faultAt(start);
            }
            ends[open] = place;
            open = parents[open];
            depth--;
            return true;
        }
    }

    /** The found values of a path in a document. */
    private static final class Trail {
        /** Per node how many names lead to it, or NONE if one does not go on from it. */
        private final int[] gone = new int[MOST_IN_BUFFER];
        final int[] nodes = new int[MOST_IN_BUFFER];
        /** Whether one comes to the value by the names, and not only as to an item of such an array. */
        final boolean[] byNames = new boolean[MOST_IN_BUFFER];
        int total;

        /** Each node stands behind the one that holds it, so one pass is enough. */
        void follow(Tree tree, Path path) {
            total = 0;
            gone[0] = 0;
            for (int k = 1; k < tree.total; k++) {
                int holder = tree.parents[k];
                int before = gone[holder];
                gone[k] = goOn(tree, path, k, before);
                if (gone[k] == path.length) {
                    note(k, true);
                } else if (before == path.length && tree.types[holder] == ARRAY) {
                    note(k, false);
                }
            }
        }

        private static int goOn(Tree tree, Path path, int node, int before) {
            if (before == NONE || before >= path.length) {
                return NONE;
            }
            if (tree.types[tree.parents[node]] == DOCUMENT) {
                return tree.names[node] == path.name(before) ? before + 1 : NONE;
            }
            return tree.types[node] == DOCUMENT ? before : NONE;
        }

        private void note(int node, boolean isByNames) {
            nodes[total] = node;
            byNames[total] = isByNames;
            total++;
        }

        /** How many different values among the found ones an index has entries for. */
        int entryTotal(Tree tree) {
            int entries = 0;
            for (int k = 0; k < total; k++) {
                int type = tree.types[nodes[k]];
                if (type != DOCUMENT && type != ARRAY && isNew(tree, k)) {
                    entries++;
                }
            }
            return entries;
        }

        private boolean isNew(Tree tree, int k) {
            for (int j = 0; j < k; j++) {
                if (tree.areEqual(nodes[j], nodes[k])) {
                    return false;
                }
            }
            return true;
        }
    }

    private static final class Condition {
        final Path path = new Path();
        private final Row operand = new Row(MOST_IN_BUFFER);
        private int form;

        void become(Path newPath, int newForm, Row newOperand) {
            path.become(newPath);
            form = newForm;
            operand.become(newOperand);
        }

        boolean suitsIndex() {
            int type = operand.cell(0);
            if (form == EQUAL) {
                return type == INT || type == TEXT || type == BOOL;
            }
            return form >= LESS && form <= AT_LEAST && (type == INT || type == TEXT);
        }

        boolean holds(Tree tree, Trail trail) {
            trail.follow(tree, path);
            switch (form) {
                case EQUAL:
                    return someIsEqual(tree, trail);
                case DIFFERENT:
                    return !someIsEqual(tree, trail);
                case THERE:
                    return (trail.total == 0) == (operand.cell(0) == BOOL && operand.cell(1) == 0);
                case SIZE:
                    return someHasSize(tree, trail);
                default:
                    return someComparesSo(tree, trail);
            }
        }

        private boolean someIsEqual(Tree tree, Trail trail) {
            if (trail.total == 0) {
                return operand.cell(0) == NULL;
            }
            for (int k = 0; k < trail.total; k++) {
                if (tree.isEqual(trail.nodes[k], operand)) {
                    return true;
                }
            }
            return false;
        }

        private boolean someHasSize(Tree tree, Trail trail) {
            if (operand.cell(0) != INT) {
                return false;
            }
            int wanted = operand.signedNumber(1);
            for (int k = 0; k < trail.total; k++) {
                int node = trail.nodes[k];
                if (trail.byNames[k] && tree.types[node] == ARRAY && tree.itemTotal(node) == wanted) {
                    return true;
                }
            }
            return false;
        }

        private boolean someComparesSo(Tree tree, Trail trail) {
            int type = operand.cell(0);
            if (type != INT && type != TEXT) {
                return false;
            }
            for (int k = 0; k < trail.total; k++) {
                int node = trail.nodes[k];
                if (tree.types[node] == type && isSo(difference(tree, node))) {
                    return true;
                }
            }
            return false;
        }

        /** Below 0 if the value, which is of the operand's type, comes before the operand. */
        private int difference(Tree tree, int node) {
            int place = tree.places[node];
            if (operand.cell(0) == INT) {
                return tree.row.signedNumber(place) - operand.signedNumber(1);
            }
            // A text's first byte is its length, which must not decide the order.
            return tree.row.compare(place + 1, tree.ends[node], operand, 2);
        }

        private boolean isSo(int difference) {
            switch (form) {
                case LESS:
                    return difference < 0;
                case AT_MOST:
                    return difference <= 0;
                case MORE:
                    return difference > 0;
                default:
                    return difference >= 0;
            }
        }
    }

    /** Changes a document: some of its bytes give way to a piece that is written first. */
    private static final class Editor {
        /** Three names with what belongs to them, an array's frame and an operand are the most. */
        private final Row piece = new Row(2 * MOST_IN_BUFFER);
        private final Row result = new Row(MOST_IN_DOCUMENT);
        private final Tree check = new Tree();
        private final int[] opened = new int[MOST_NAMES];
        private int openedTotal;
        /** The bytes from .. to - 1, within nest and no deeper one, give way to the piece. */
        private int nest;
        private int from;
        private int to;

        /** False if the operator fails; the document that the tree was read from stays as it is then. */
        boolean apply(Tree tree, Path path, int operator, Row operand) {
            if (operator == ADD && operand.cell(0) != INT) {
                return false;
            }
            int document = 0;
            int k = 0;
            int next = tree.element(0, path.name(0));
            for (; k < path.length - 1 && next != NONE; k++) {
                if (tree.types[next] != DOCUMENT) {
                    return false;
                }
                document = next;
                next = tree.element(document, path.name(k + 1));
            }
            piece.length = 0;
            if (next == NONE) {
                if (operator == UNSET || operator == PULL) {
                    return true;
                }
                aim(document, tree.ends[document] - 1, tree.ends[document] - 1);
                writeNew(path, k, operator, operand);
            } else if (!alter(tree, next, operator, operand)) {
                return false;
            }
            // Of the result's form only the depth may be wrong, but no other reader has to know of it.
            if (!splice(tree) || check.readDocument(result) != NONE) {
                return false;
            }
            tree.row.become(result);
            return true;
        }

        private void aim(int newNest, int newFrom, int newTo) {
            nest = newNest;
            from = newFrom;
            to = newTo;
        }

        /** What the operator does where there is an element; false if it fails for the value's sake. */
        private boolean alter(Tree tree, int node, int operator, Row operand) {
            int type = tree.types[node];
            int place = tree.places[node];
            int end = tree.ends[node];
            switch (operator) {
                case SET:
                    aim(tree.parents[node], tree.starts[node], end);
                    writeElement(tree.names[node], operand);
                    return true;
                case UNSET:
                    aim(tree.parents[node], tree.starts[node], end);
                    return true;
                case ADD:
                    aim(tree.parents[node], place, end);
                    return type == INT && writeSum(tree.row.signedNumber(place), operand);
                case PUSH:
                    aim(node, end - 1, end - 1);
                    piece.addPart(operand, 0, operand.length);
                    return type == ARRAY;
                default:
                    aim(node, place + 1, end - 1);
                    writeOthers(tree, node, operand);
                    return type == ARRAY;
            }
        }

        private void writeElement(int name, Row operand) {
            piece.add(operand.cell(0));
            piece.addName(name);
            piece.addPart(operand, 1, operand.length);
        }

        private boolean writeSum(int number, Row operand) {
            int sum = number + operand.signedNumber(1);
            piece.add((sum >> 8) & 255);
            piece.add(sum & 255);
            return sum >= -32768 && sum <= 32767;
        }

        private void writeOthers(Tree tree, int array, Row operand) {
            for (int k = array + 1; k < tree.total; k++) {
                if (tree.parents[k] == array && !tree.isEqual(k, operand)) {
                    piece.addPart(tree.row, tree.starts[k], tree.ends[k]);
                }
            }
        }

        /** The element that comes, within the documents on the way, from name k on, that come too. */
        private void writeNew(Path path, int k, int operator, Row operand) {
            openedTotal = 0;
            for (int j = k; j < path.length - 1; j++) {
                openNest(DOCUMENT, path.name(j));
            }
            if (operator == PUSH) {
                openNest(ARRAY, path.lastName());
                piece.addPart(operand, 0, operand.length);
            } else {
                writeElement(path.lastName(), operand);
            }
            for (int j = openedTotal - 1; j >= 0; j--) {
                piece.add(0);
                piece.cells[opened[j]] = piece.length - opened[j];
            }
        }

        /** Its T is known, and written, only when its end is. */
        private void openNest(int type, int name) {
            piece.add(type);
            piece.addName(name);
            opened[openedTotal] = piece.length;
            openedTotal++;
            piece.add(0);
        }

        /** False if the result would be too long. */
        private boolean splice(Tree tree) {
            Row row = tree.row;
            int growth = piece.length - (to - from);
            if (row.length + growth > MOST_IN_DOCUMENT) {
                return false;
            }
            result.length = 0;
            result.addPart(row, 0, from);
            result.addPart(piece, 0, piece.length);
            result.addPart(row, to, row.length);
            int node = nest;
            for (int k = 0; k < MOST_DEPTH && node != NONE; k++) {
                result.cells[tree.places[node]] += growth;
                node = tree.parents[node];
            }
            return true;
        }
    }
}
