import java.util.ArrayList;
import java.util.List;
import java.util.Map;
import java.util.Random;
import java.util.TreeMap;
import java.util.function.Predicate;
import java.util.function.ToIntFunction;

/** Promises 1 to 20: runs of calls, drawn from fixed seeds, on PathShelf and on Model at once. */
final class ModelTest {
    private static final int RUNS = 4000;
    /** A round of calls, and a look at a document behind the last round, take no more. */
    private static final int ROUND = 100;
    private static final int LOOK = 64;
    /** More than the buffer takes, so that some are refused. */
    private static final int MOST_TYPED = 88;
    private static final String[] NAMES = {"a", "a", "b", "b", "c", "ab", "abcd", "id"};
    private static final int[] NUMBERS = {0, 0, 1, 1, 2, 3, 255, 256, -1, 32767, -32768};
    private static final String[] TEXTS = {"", "a", "ab", "b", "abcdefgh", " ", "~"};

    private final Random random;
    private final Shelf shelf = new Shelf();
    private final Model model = new Model();
    private final List<String> said = new ArrayList<>();
    private final List<ToIntFunction<Shelf>> calls = new ArrayList<>();
    /** Few numbers are often used already; many fill the store. */
    private final int numbers;
    /** Some runs insert much more than they do other things, so that the store gets full. */
    private final int inserts;
    private boolean wrong = false;

    private ModelTest(long seed) {
        random = new Random(seed);
        numbers = random.nextBoolean() ? 18 : 200;
        inserts = random.nextInt(4) == 0 ? 40 : 5;
    }

    public static void main(String[] args) {
        everyByteOfADocument();
        everyByteOfAnOperand();
        drawnRuns();
        Check.end();
    }

    /** Where bytes are faulty, with each byte of a document changed to each other one. */
    private static void everyByteOfADocument() {
        String[] texts = {"{id:9}", "{id:9, a:'xy', abcd:{f:[true,null,{g:-1}], h:{}}, b:[[],[[]]]}", "{id:9, a:{b:{c:{d:1, e:''}}}}"};
        for (String text : texts) {
            byte[] whole = Written.document(text);
            for (int p = 0; p < whole.length; p++) {
                for (int b = 0; b < 256; b++) {
                    byte[] row = Written.with(whole, p, b);
                    Shelf shelf = new Shelf();
                    shelf.type(row);
                    Check.due("insert of " + Written.hex(row), shelf.insert(), modelWith(row).insert());
                }
            }
        }
    }

    private static void everyByteOfAnOperand() {
        String[] texts = {"5", "'xy'", "true", "null", "{a:'xy', abcd:{f:[true,null,{g:-1}], h:{}}, b:[[],[[]]]}", "[[[[1,'']]]]"};
        for (String text : texts) {
            byte[] whole = Written.value(text);
            for (int p = 0; p < whole.length; p++) {
                for (int b = 0; b < 256; b++) {
                    byte[] row = Written.with(whole, p, b);
                    Shelf shelf = new Shelf();
                    shelf.path('a', 1);
                    shelf.type(row);
                    Model model = modelWith(row);
                    model.path('a', 1);
                    Check.due("where of " + Written.hex(row), shelf.where(0), model.where(0));
                }
            }
        }
    }

    private static Model modelWith(byte[] row) {
        Model model = new Model();
        for (byte b : row) {
            model.put(b, 1);
        }
        return model;
    }

    private static void drawnRuns() {
        Map<String, Integer> seen = new TreeMap<>();
        for (int run = 0; run < RUNS; run++) {
            ModelTest test = new ModelTest(run);
            test.run();
            for (String line : test.said) {
                seen.merge(kind(line), 1, Integer::sum);
            }
            Check.due("run " + run + " is wrong", test.wrong, false);
            if (test.wrong) {
                test.said.forEach(System.out::println);
                break;
            }
        }
        // A test that hardly ever gets somewhere would pass without telling anything.
        for (String kind : new String[] {"insert ok", "insert -1000", "insert -1001", "insert -1002", "insert faulty",
            "where ok", "where faulty", "where -1000", "change ok", "change none", "change faulty", "change -1000",
            "find ok", "find none", "fetch ok", "remove ok", "entries ok"}) {
            Check.due("often enough: " + kind, seen.getOrDefault(kind, 0) >= 200, true);
        }
    }

    private static String kind(String line) {
        String call = line.substring(0, line.indexOf('('));
        int answer = Integer.parseInt(line.substring(line.lastIndexOf(' ') + 1));
        if (answer <= -1000) {
            return call + " " + answer;
        }
        return call + (answer < 0 ? " faulty" : answer == 0 && !call.equals("insert") && !call.equals("where") ? " none" : " ok");
    }

    private void run() {
        while (shelf.callsLeft() >= ROUND + LOOK && !wrong) {
            int draw = random.nextInt(15 + inserts) - inserts + 5;
            if (draw < 5) {
                writeDocument();
                same("insert()", Shelf::insert, model.insert());
            } else if (draw < 8) {
                writePath();
                writeOperand();
                int form = odd() ? random.nextInt(12) - 2 : random.nextInt(8);
                same("where(" + form + ")", each -> each.where(form), model.where(form));
            } else if (draw < 12) {
                writePath();
                writeOperand();
                int operator = odd() ? random.nextInt(9) - 2 : random.nextInt(5);
                same("change(" + operator + ")", each -> each.change(operator), model.change(operator));
                lookAtResults();
            } else if (draw < 14) {
                same("find()", Shelf::find, model.find());
                lookAtResults();
            } else {
                small(draw);
            }
        }
        for (int number : model.numbers()) {
            if (!wrong) {
                lookAtDocument(number);
            }
        }
    }

    private void small(int draw) {
        int number = number();
        switch (draw) {
            case 14:
                same("fetch(" + number + ")", each -> each.fetch(number), model.fetch(number));
                lookAtBuffer();
                break;
            case 15:
                if (random.nextInt(3) == 0) {
                    sameTruth("remove(" + number + ")", each -> each.remove(number), model.remove(number));
                }
                break;
            case 16:
                writePath();
                int i = odd() ? random.nextInt(6) - 2 : random.nextInt(2);
                sameTruth("index(" + i + ")", each -> each.index(i), model.index(i));
                break;
            case 17:
                same("anywhere()", Shelf::anywhere, model.anywhere());
                break;
            case 18:
                int p = random.nextInt(90) - 4;
                int b = odd() ? random.nextInt(600) - 200 : random.nextInt(8);
                sameTruth("set(" + p + ", " + b + ")", each -> each.set(p, b), model.set(p, b));
                break;
            default:
                int n = random.nextInt(90) - 4;
                sameTruth("cut(" + n + ")", each -> each.cut(n), model.cut(n));
                break;
        }
    }

    private boolean odd() {
        return random.nextInt(12) == 0;
    }

    private int number() {
        return odd() ? random.nextInt(1100) - 50 : random.nextInt(numbers);
    }

    private void lookAtResults() {
        same("examined()", Shelf::examined, model.examined());
        same("entries(0)", each -> each.entries(0), model.entries(0));
        same("entries(1)", each -> each.entries(1), model.entries(1));
        int k = random.nextInt(18) - 1;
        same("found(" + k + ")", each -> each.found(k), model.found(k));
        same("size()", Shelf::size, model.size());
        same("count()", Shelf::count, model.count());
    }

    private void lookAtBuffer() {
        same("size()", Shelf::size, model.size());
        for (int p = -1; p <= model.size(); p++) {
            int place = p;
            same("at(" + p + ")", each -> each.at(place), model.at(p));
        }
    }

    /** On an object that is new for each document, so that none is used for too many calls. */
    private void lookAtDocument(int number) {
        Shelf twin = new Shelf();
        for (ToIntFunction<Shelf> call : calls) {
            call.applyAsInt(twin);
        }
        said.add("at the end fetch(" + number + ") " + twin.fetch(number));
        byte[] got = twin.buffer();
        model.fetch(number);
        boolean same = got.length == model.size();
        for (int p = 0; p < got.length && same; p++) {
            same = (got[p] & 255) == model.at(p);
        }
        wrong = !same;
    }

    private void same(String call, ToIntFunction<Shelf> on, int want) {
        int got = on.applyAsInt(shelf);
        calls.add(on);
        said.add(call + " " + got);
        if (got != want) {
            wrong = true;
            Check.due("call " + said.size() + ": " + call, got, want);
        }
    }

    private void sameTruth(String call, Predicate<Shelf> on, int want) {
        same(call, each -> on.test(each) ? 1 : 0, want);
    }

    // What is typed

    private void writePath() {
        int names = 1 + random.nextInt(3);
        for (int k = 0; k < names; k++) {
            String name = NAMES[random.nextInt(NAMES.length)];
            int n = odd() ? random.nextInt(8) - 1 : name.length();
            int word = Written.word(name);
            if (k == 0 && !odd()) {
                sameTruth("path(" + word + ", " + n + ")", each -> each.path(word, n), model.path(word, n));
            } else {
                sameTruth("step(" + word + ", " + n + ")", each -> each.step(word, n), model.step(word, n));
            }
        }
    }

    private void writeDocument() {
        int number = number();
        byte[] row;
        if (odd()) {
            row = Written.behindType(value(3, 1));
        } else {
            row = Written.behindType(Written.documentOf(Written.element("id", Written.integer(number)), elements(2, List.of("id"))));
        }
        write(spoilt(row));
    }

    private void writeOperand() {
        if (random.nextInt(30) != 0) {
            write(spoilt(value(1 + random.nextInt(6), odd() ? 1 : 3)));
        }
    }

    private void write(byte[] row) {
        sameTruth("cut(0)", each -> each.cut(0), model.cut(0));
        for (int p = 0; p < row.length && p < MOST_TYPED; p += 4) {
            int n = Math.min(4, row.length - p);
            int high = random.nextInt() << 8;
            for (int k = 0; k < n; k++) {
                high = (high << 8) | (row[p + k] & 255);
            }
            int word = high;
            sameTruth("put(" + word + ", " + n + ")", each -> each.put(word, n), model.put(word, n));
        }
    }

    private byte[] spoilt(byte[] row) {
        if (random.nextInt(6) != 0 || row.length == 0) {
            return row;
        }
        byte[] other = row.clone();
        int p = random.nextInt(row.length);
        switch (random.nextInt(5)) {
            case 0:
                return java.util.Arrays.copyOf(row, p);
            case 1:
                return Written.join(row, Written.bytes(random.nextInt(8)));
            case 2:
                other[p] = (byte) random.nextInt(256);
                return other;
            case 3:
                other[p]++;
                return other;
            default:
                // A row with a byte twice, its first T mended or not.
                byte[] longer = Written.join(java.util.Arrays.copyOf(row, p + 1), java.util.Arrays.copyOfRange(row, p, row.length));
                if (random.nextBoolean()) {
                    longer[0]++;
                }
                return longer;
        }
    }

    private byte[] value(int type, int depth) {
        switch (type) {
            case 1:
                return Written.integer(NUMBERS[random.nextInt(NUMBERS.length)]);
            case 2:
                return Written.text(TEXTS[random.nextInt(TEXTS.length)]);
            case 3:
                return Written.documentOf(elements(depth + 1, List.of()));
            case 4:
                byte[][] items = new byte[random.nextInt(4)][];
                for (int k = 0; k < items.length; k++) {
                    items[k] = value(type(depth + 1), depth + 1);
                }
                return Written.array(items);
            case 5:
                return Written.bool(random.nextBoolean());
            default:
                return Written.nothing();
        }
    }

    private int type(int depth) {
        // Now and then one that is too deep.
        if (depth > 4 && random.nextInt(20) != 0 || depth > 5) {
            return new int[] {1, 2, 5, 6}[random.nextInt(4)];
        }
        return new int[] {1, 2, 3, 3, 3, 4, 4, 4, 5, 6}[random.nextInt(10)];
    }

    private byte[] elements(int depth, List<String> used) {
        List<String> names = new ArrayList<>(used);
        byte[] all = {};
        int wanted = random.nextInt(4);
        for (int k = 0; k < wanted; k++) {
            String name = NAMES[random.nextInt(NAMES.length)];
            if (!names.contains(name) || random.nextInt(40) == 0) {
                names.add(name);
                all = Written.join(all, Written.element(name, value(type(depth), depth)));
            }
        }
        return all;
    }
}
