import java.util.ArrayList;
import java.util.LinkedHashMap;
import java.util.List;
import java.util.Map;
import java.util.TreeMap;

/**
 * The document's words once more, as plainly as the Java library allows: values are objects, bytes are
 * written anew from them, and nothing is shared with PathShelf. For tests alone.
 */
final class Model {
    /** The place of the first faulty byte. */
    private static final class Faulty extends Exception {
        private static final long serialVersionUID = 1;
        final int place;

        Faulty(int place) {
            this.place = place;
        }
    }

    /** An operator failed. */
    private static final class Failed extends Exception {
        private static final long serialVersionUID = 1;
    }

    private static final class Condition {
        List<String> path;
        int form;
        Object operand;
    }

    private static final Object NULL = "a NULL, which is no text of a value".toCharArray();

    private final List<Integer> buffer = new ArrayList<>();
    private List<String> path = List.of();
    private final TreeMap<Integer, Map<String, Object>> documents = new TreeMap<>();
    private final List<List<String>> indexes = new ArrayList<>(List.of(List.of(), List.of()));
    private final List<Condition> conditions = new ArrayList<>();
    private List<Integer> found = List.of();
    private int examined = 0;

    // Reading

    private int place;

    private int take(int least, int most) throws Faulty {
        if (place >= buffer.size() || buffer.get(place) < least || buffer.get(place) > most) {
            throw new Faulty(place);
        }
        return buffer.get(place++);
    }

    private Object readAll(boolean typed) throws Faulty {
        place = 0;
        Object value = typed ? readTyped(1) : readValue(3, 1);
        if (place < buffer.size()) {
            throw new Faulty(place);
        }
        return value;
    }

    private int takeType(int depth) throws Faulty {
        int type = take(1, 6);
        if ((type == 3 || type == 4) && depth > 4) {
            throw new Faulty(place - 1);
        }
        return type;
    }

    private Object readTyped(int depth) throws Faulty {
        return readValue(takeType(depth), depth);
    }

    private Object readValue(int type, int depth) throws Faulty {
        if (type == 1) {
            int high = take(0, 255);
            return (int) (short) (high * 256 + take(0, 255));
        }
        if (type == 2) {
            int length = take(0, 8);
            StringBuilder text = new StringBuilder();
            while (text.length() < length) {
                text.append((char) take(32, 126));
            }
            return text.toString();
        }
        if (type == 5) {
            return take(0, 1) == 1;
        }
        if (type == 6) {
            return NULL;
        }
        int start = place;
        int t = take(0, 255);
        Map<String, Object> elements = new LinkedHashMap<>();
        List<Object> items = new ArrayList<>();
        while (place >= buffer.size() || buffer.get(place) != 0) {
            if (type == 4) {
                items.add(readTyped(depth + 1));
                continue;
            }
            int kind = takeType(depth + 1);
            int first = place;
            String name = "";
            while (name.isEmpty() || name.length() < 4 && place < buffer.size() && buffer.get(place) != 0) {
                name += (char) take('a', 'z');
            }
            take(0, 0);
            if (elements.containsKey(name)) {
                throw new Faulty(first);
            }
            elements.put(name, readValue(kind, depth + 1));
        }
        place++;
        if (t != place - start) {
            throw new Faulty(start);
        }
        return type == 3 ? elements : items;
    }

    // Writing

    private static int typeOf(Object value) {
        if (value == NULL) {
            return 6;
        }
        if (value instanceof Integer) {
            return 1;
        }
        if (value instanceof String) {
            return 2;
        }
        if (value instanceof Map) {
            return 3;
        }
        return value instanceof List ? 4 : 5;
    }

    private static List<Integer> write(Object value) {
        List<Integer> out = new ArrayList<>();
        switch (typeOf(value)) {
            case 1:
                out.add(((Integer) value >> 8) & 255);
                out.add((Integer) value & 255);
                break;
            case 2:
                out.add(((String) value).length());
                ((String) value).chars().forEach(out::add);
                break;
            case 3:
                for (Map.Entry<?, ?> element : ((Map<?, ?>) value).entrySet()) {
                    out.add(typeOf(element.getValue()));
                    ((String) element.getKey()).chars().forEach(out::add);
                    out.add(0);
                    out.addAll(write(element.getValue()));
                }
                out.add(0, out.size() + 2);
                out.add(0);
                break;
            case 4:
                for (Object item : (List<?>) value) {
                    out.add(typeOf(item));
                    out.addAll(write(item));
                }
                out.add(0, out.size() + 2);
                out.add(0);
                break;
            case 5:
                out.add((Boolean) value ? 1 : 0);
                break;
            default:
                break;
        }
        return out;
    }

    /** Map.equals leaves the order of the elements out, so it is of no use here. */
    private static boolean same(Object one, Object other) {
        if (typeOf(one) != typeOf(other)) {
            return false;
        }
        if (one instanceof Map) {
            List<?> names = new ArrayList<>(((Map<?, ?>) one).keySet());
            return names.equals(new ArrayList<>(((Map<?, ?>) other).keySet()))
                && same(new ArrayList<>(((Map<?, ?>) one).values()), new ArrayList<>(((Map<?, ?>) other).values()));
        }
        if (one instanceof List) {
            List<?> items = (List<?>) one;
            List<?> others = (List<?>) other;
            boolean all = items.size() == others.size();
            for (int k = 0; all && k < items.size(); k++) {
                all = same(items.get(k), others.get(k));
            }
            return all;
        }
        return one.equals(other);
    }

    private static int depthOf(Object value) {
        int deepest = 0;
        if (value instanceof Map) {
            deepest = 1;
            for (Object each : ((Map<?, ?>) value).values()) {
                deepest = Math.max(deepest, 1 + depthOf(each));
            }
        } else if (value instanceof List) {
            deepest = 1;
            for (Object each : (List<?>) value) {
                deepest = Math.max(deepest, 1 + depthOf(each));
            }
        }
        return deepest;
    }

    @SuppressWarnings("unchecked")
    private static Map<String, Object> asDocument(Object value) {
        return (Map<String, Object>) value;
    }

    private static Object copy(Object value) {
        if (value instanceof Map) {
            Map<String, Object> twin = new LinkedHashMap<>();
            asDocument(value).forEach((name, each) -> twin.put(name, copy(each)));
            return twin;
        }
        if (value instanceof List) {
            List<Object> twin = new ArrayList<>();
            ((List<?>) value).forEach(each -> twin.add(copy(each)));
            return twin;
        }
        return value;
    }

    // Paths and conditions

    private static List<Object> ends(Object from, List<String> names) {
        if (names.isEmpty()) {
            return List.of(from);
        }
        List<Object> out = new ArrayList<>();
        List<?> starts = from instanceof List ? (List<?>) from : List.of(from);
        for (Object start : starts) {
            if (start instanceof Map && asDocument(start).containsKey(names.get(0))) {
                out.addAll(ends(asDocument(start).get(names.get(0)), names.subList(1, names.size())));
            }
        }
        return out;
    }

    private static List<Object> foundValues(Object document, List<String> names) {
        List<Object> out = new ArrayList<>();
        for (Object end : ends(document, names)) {
            out.add(end);
            if (end instanceof List) {
                out.addAll((List<?>) end);
            }
        }
        return out;
    }

    private static boolean holds(Object document, Condition condition) {
        List<Object> values = foundValues(document, condition.path);
        Object operand = condition.operand;
        switch (condition.form) {
            case 0:
                return operand == NULL && values.isEmpty() || values.stream().anyMatch(value -> same(value, operand));
            case 1:
                return !(operand == NULL && values.isEmpty() || values.stream().anyMatch(value -> same(value, operand)));
            case 6:
                return values.isEmpty() == Boolean.FALSE.equals(operand);
            case 7:
                return ends(document, condition.path).stream()
                    .anyMatch(end -> end instanceof List && operand.equals(((List<?>) end).size()));
            default:
                return values.stream().anyMatch(value -> compares(value, condition.form, operand));
        }
    }

    private static boolean compares(Object value, int form, Object operand) {
        int difference;
        if (value instanceof Integer && operand instanceof Integer) {
            difference = ((Integer) value).compareTo((Integer) operand);
        } else if (value instanceof String && operand instanceof String) {
            difference = ((String) value).compareTo((String) operand);
        } else {
            return false;
        }
        return form == 2 ? difference < 0 : form == 3 ? difference <= 0 : form == 4 ? difference > 0 : difference >= 0;
    }

    private List<Object> indexEntries(int i, Object document) {
        List<Object> entries = new ArrayList<>();
        for (Object value : foundValues(document, indexes.get(i))) {
            boolean simple = !(value instanceof Map) && !(value instanceof List);
            if (simple && entries.stream().noneMatch(entry -> same(entry, value))) {
                entries.add(value);
            }
        }
        return entries;
    }

    private boolean canUse(Condition condition) {
        boolean ordered = condition.operand instanceof Integer || condition.operand instanceof String;
        return condition.form >= 2 && condition.form <= 5 && ordered
            || condition.form == 0 && (ordered || condition.operand instanceof Boolean);
    }

    private List<Integer> seek() {
        List<Integer> candidates = new ArrayList<>(documents.keySet());
        search:
        for (Condition condition : conditions) {
            for (int i = 0; i < 2; i++) {
                if (indexes.get(i).equals(condition.path) && canUse(condition)) {
                    int index = i;
                    candidates.removeIf(number -> indexEntries(index, documents.get(number)).stream()
                        .noneMatch(entry -> condition.form == 0 ? same(entry, condition.operand)
                            : compares(entry, condition.form, condition.operand)));
                    break search;
                }
            }
        }
        examined = candidates.size();
        candidates.removeIf(number -> !conditions.stream().allMatch(each -> holds(documents.get(number), each)));
        return candidates;
    }

    // Operators

    private void operate(Map<String, Object> document, int operator, Object operand) throws Failed {
        boolean brings = operator == 0 || operator == 2 || operator == 3;
        if (operator == 2 && !(operand instanceof Integer)) {
            throw new Failed();
        }
        Map<String, Object> at = document;
        for (String name : path.subList(0, path.size() - 1)) {
            if (!at.containsKey(name)) {
                if (!brings) {
                    return;
                }
                at.put(name, new LinkedHashMap<String, Object>());
            }
            if (!(at.get(name) instanceof Map)) {
                throw new Failed();
            }
            at = asDocument(at.get(name));
        }
        String last = path.get(path.size() - 1);
        if (!at.containsKey(last)) {
            if (brings) {
                at.put(last, operator == 3 ? new ArrayList<>(List.of(operand)) : operand);
            }
            return;
        }
        Object old = at.get(last);
        if (operator == 0) {
            at.put(last, operand);
        } else if (operator == 1) {
            at.remove(last);
        } else if (operator == 2) {
            if (!(old instanceof Integer)) {
                throw new Failed();
            }
            int sum = (Integer) old + (Integer) operand;
            if (sum != (short) sum) {
                throw new Failed();
            }
            at.put(last, sum);
        } else {
            if (!(old instanceof List)) {
                throw new Failed();
            }
            List<Object> items = new ArrayList<>((List<?>) old);
            if (operator == 3) {
                items.add(operand);
            } else {
                items.removeIf(item -> same(item, operand));
            }
            at.put(last, items);
        }
    }

    // The face, all answers as numbers

    int put(int word, int n) {
        if (n < 1 || n > 4 || buffer.size() + n > 80) {
            return 0;
        }
        for (int k = n - 1; k >= 0; k--) {
            buffer.add((word >> (8 * k)) & 255);
        }
        return 1;
    }

    int set(int p, int b) {
        if (p < 0 || p >= buffer.size() || b < 0 || b > 255) {
            return 0;
        }
        buffer.set(p, b);
        return 1;
    }

    int cut(int n) {
        if (n < 0 || n > buffer.size()) {
            return 0;
        }
        buffer.subList(n, buffer.size()).clear();
        return 1;
    }

    int size() {
        return buffer.size();
    }

    int at(int p) {
        return p < 0 || p >= buffer.size() ? -1 : buffer.get(p);
    }

    private static String name(int word, int n) {
        if (n < 1 || n > 4) {
            return null;
        }
        String name = "";
        for (int k = n - 1; k >= 0; k--) {
            name += (char) ((word >> (8 * k)) & 255);
        }
        return name.matches("[a-z]{1,4}") ? name : null;
    }

    int path(int word, int n) {
        String name = name(word, n);
        if (name == null) {
            return 0;
        }
        path = List.of(name);
        return 1;
    }

    int step(int word, int n) {
        String name = name(word, n);
        if (name == null || path.isEmpty() || path.size() == 3) {
            return 0;
        }
        List<String> longer = new ArrayList<>(path);
        longer.add(name);
        path = longer;
        return 1;
    }

    int insert() {
        Map<String, Object> document;
        try {
            document = asDocument(readAll(false));
        } catch (Faulty faulty) {
            return -1 - faulty.place;
        }
        boolean isNumbered = !document.isEmpty() && document.keySet().iterator().next().equals("id")
            && document.get("id") instanceof Integer && (Integer) document.get("id") >= 0 && (Integer) document.get("id") <= 999;
        if (buffer.size() > 60 || !isNumbered) {
            return -1000;
        }
        int number = (Integer) document.get("id");
        if (documents.containsKey(number)) {
            return -1001;
        }
        if (documents.size() == 16) {
            return -1002;
        }
        documents.put(number, document);
        buffer.clear();
        return number;
    }

    int fetch(int number) {
        if (!documents.containsKey(number)) {
            return -1;
        }
        buffer.clear();
        buffer.addAll(write(documents.get(number)));
        return buffer.size();
    }

    int remove(int number) {
        return documents.remove(number) == null ? 0 : 1;
    }

    int index(int i) {
        if (i < 0 || i > 1 || path.isEmpty()) {
            return 0;
        }
        indexes.set(i, path);
        return 1;
    }

    int entries(int i) {
        if (i < 0 || i > 1 || indexes.get(i).isEmpty()) {
            return -1;
        }
        return documents.values().stream().mapToInt(document -> indexEntries(i, document).size()).sum();
    }

    int where(int form) {
        Condition condition = new Condition();
        try {
            condition.operand = readAll(true);
        } catch (Faulty faulty) {
            return -1 - faulty.place;
        }
        if (form < 0 || form > 7 || path.isEmpty() || conditions.size() == 3) {
            return -1000;
        }
        condition.form = form;
        condition.path = path;
        conditions.add(condition);
        buffer.clear();
        return conditions.size() - 1;
    }

    int anywhere() {
        int total = conditions.size();
        conditions.clear();
        return total;
    }

    int find() {
        found = seek();
        return found.size();
    }

    int found(int k) {
        return k < 0 || k >= found.size() ? -1 : found.get(k);
    }

    int examined() {
        return examined;
    }

    int change(int operator) {
        Object operand = NULL;
        if (operator != 1) {
            try {
                operand = readAll(true);
            } catch (Faulty faulty) {
                return -1 - faulty.place;
            }
        }
        if (operator < 0 || operator > 4 || path.isEmpty() || path.equals(List.of("id"))) {
            return -1000;
        }
        int done = 0;
        for (int number : seek()) {
            Map<String, Object> changed = asDocument(copy(documents.get(number)));
            try {
                operate(changed, operator, copy(operand));
                if (write(changed).size() > 60 || depthOf(changed) > 4) {
                    throw new Failed();
                }
                documents.put(number, changed);
                done++;
            } catch (Failed failed) {
                continue;
            }
        }
        buffer.clear();
        return done;
    }

    int count() {
        return documents.size();
    }

    /** No call of the face: for a look at all documents. */
    List<Integer> numbers() {
        return new ArrayList<>(documents.keySet());
    }
}
