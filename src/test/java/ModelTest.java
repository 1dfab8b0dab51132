import java.util.ArrayList;
import java.util.List;
import java.util.Map;
import java.util.Random;
import java.util.TreeMap;

/** Promises 1 to 20: runs of calls, drawn from fixed seeds, on PathShelf and on Model at once. */
final class ModelTest {
    private static final int RUNS = 4000;
    private static final int CALLS = 512;
    private static final String[] NAMES = {"a", "a", "b", "b", "c", "ab", "abcd", "id"};
    private static final int[] NUMBERS = {0, 0, 1, 1, 2, 3, 255, 256, -1, 32767, -32768};
    private static final String[] TEXTS = {"", "a", "ab", "b", "abcdefgh", " ", "~"};

    private final Random random;
    private final PathShelf shelf = new PathShelf();
    private final Model model = new Model();
    private final List<String> said = new ArrayList<>();
    /** Few numbers are often used already; many fill the store. */
    private final int numbers;
    /** Some runs insert much more than they do other things, so that the store gets full. */
    private final int inserts;
    private boolean wrong = false;

    private ModelTest(long seed) {
        random = new Random(seed);
        numbers = random.nextBoolean() ? 18 : 200;
        inserts = random.nextInt(4) == 0 ? 40 : 5;
    }

    public static void main(String[] args) {
        Map<String, Integer> seen = new TreeMap<>();
        for (int run = 0; run < RUNS; run++) {
            ModelTest test = new ModelTest(run);
            test.run();
            for (String line : test.said) {
                seen.merge(kind(line), 1, Integer::sum);
            }
            Check.due("run " + run + " is wrong", test.wrong, false);
            if (test.wrong) {
                test.said.forEach(System.out::println);
                break;
            }
        }
        // A test that hardly ever gets somewhere would pass without telling anything.
        for (String kind : new String[] {"insert ok", "insert -1000", "insert -1001", "insert -1002", "insert faulty",
            "where ok", "where faulty", "where -1000", "change ok", "change none", "change faulty", "change -1000",
            "find ok", "find none", "fetch ok", "remove ok", "entries ok"}) {
            Check.due("often enough: " + kind, seen.getOrDefault(kind, 0) >= 200, true);
        }
        Check.end();
    }

    private static String kind(String line) {
        String call = line.substring(0, line.indexOf('('));
        int answer = Integer.parseInt(line.substring(line.lastIndexOf(' ') + 1));
        if (answer <= -1000) {
            return call + " " + answer;
        }
        return call + (answer < 0 ? " faulty" : answer == 0 && !call.equals("insert") && !call.equals("where") ? " none" : " ok");
    }

    private void run() {
        while (said.size() < CALLS && !wrong) {
            int draw = random.nextInt(15 + inserts) - inserts + 5;
            if (draw < 5) {
                writeDocument();
                same("insert()", shelf.insert(), model.insert());
            } else if (draw < 8) {
                writePath();
                writeOperand();
                int form = odd() ? random.nextInt(12) - 2 : random.nextInt(8);
                same("where(" + form + ")", shelf.where(form), model.where(form));
            } else if (draw < 12) {
                writePath();
                writeOperand();
                int operator = odd() ? random.nextInt(9) - 2 : random.nextInt(5);
                same("change(" + operator + ")", shelf.change(operator), model.change(operator));
                lookAtResults();
            } else if (draw < 14) {
                same("find()", shelf.find(), model.find());
                lookAtResults();
            } else {
                small(draw);
            }
        }
        lookAtAll();
    }

    private void small(int draw) {
        int number = number();
        switch (draw) {
            case 14:
                same("fetch(" + number + ")", shelf.fetch(number), model.fetch(number));
                lookAtBuffer();
                break;
            case 15:
                if (random.nextInt(3) == 0) {
                    same("remove(" + number + ")", bit(shelf.remove(number)), model.remove(number));
                }
                break;
            case 16:
                writePath();
                int i = odd() ? random.nextInt(6) - 2 : random.nextInt(2);
                same("index(" + i + ")", bit(shelf.index(i)), model.index(i));
                break;
            case 17:
                same("anywhere()", shelf.anywhere(), model.anywhere());
                break;
            case 18:
                int p = random.nextInt(90) - 4;
                int b = odd() ? random.nextInt(600) - 200 : random.nextInt(8);
                same("set(" + p + ", " + b + ")", bit(shelf.set(p, b)), model.set(p, b));
                break;
            default:
                int n = random.nextInt(90) - 4;
                same("cut(" + n + ")", bit(shelf.cut(n)), model.cut(n));
                break;
        }
    }

    private boolean odd() {
        return random.nextInt(12) == 0;
    }

    private int number() {
        return odd() ? random.nextInt(1100) - 50 : random.nextInt(numbers);
    }

    private void lookAtResults() {
        same("examined()", shelf.examined(), model.examined());
        for (int i = 0; i < 2; i++) {
            same("entries(" + i + ")", shelf.entries(i), model.entries(i));
        }
        int k = random.nextInt(18) - 1;
        same("found(" + k + ")", shelf.found(k), model.found(k));
        same("size()", shelf.size(), model.size());
        same("count()", shelf.count(), model.count());
    }

    private void lookAtBuffer() {
        same("size()", shelf.size(), model.size());
        boolean equal = true;
        for (int p = -1; p <= model.size(); p++) {
            equal = equal && shelf.at(p) == model.at(p);
        }
        same("every byte()", bit(equal), 1);
    }

    private void lookAtAll() {
        lookAtBuffer();
        for (int number = 0; number < 1000; number++) {
            int length = model.fetch(number);
            if (length != shelf.fetch(number)) {
                same("at the end fetch(" + number + ")", shelf.fetch(number), length);
            } else if (length >= 0) {
                lookAtBuffer();
            }
        }
    }

    private void same(String call, int got, int want) {
        said.add(call + " " + got);
        if (got != want) {
            wrong = true;
            Check.due("call " + said.size() + ": " + call, got, want);
        }
    }

    private static int bit(boolean truth) {
        return truth ? 1 : 0;
    }

    // What is typed

    private void writePath() {
        int names = 1 + random.nextInt(3);
        for (int k = 0; k < names; k++) {
            String name = NAMES[random.nextInt(NAMES.length)];
            int n = odd() ? random.nextInt(8) - 1 : name.length();
            int word = Check.word(name);
            if (k == 0 && !odd()) {
                same("path(" + word + ", " + n + ")", bit(shelf.path(word, n)), model.path(word, n));
            } else {
                same("step(" + word + ", " + n + ")", bit(shelf.step(word, n)), model.step(word, n));
            }
        }
    }

    private void writeDocument() {
        int number = number();
        byte[] row;
        if (odd()) {
            row = Check.behindType(value(3, 1));
        } else {
            row = Check.behindType(Check.document(Check.element("id", Check.integer(number)), elements(2, List.of("id"))));
        }
        write(spoilt(row));
    }

    private void writeOperand() {
        if (random.nextInt(30) != 0) {
            write(spoilt(value(1 + random.nextInt(6), odd() ? 1 : 3)));
        }
    }

    private void write(byte[] row) {
        same("cut(0)", bit(shelf.cut(0)), model.cut(0));
        for (int p = 0; p < row.length; p += 4) {
            int n = Math.min(4, row.length - p);
            int word = random.nextInt() << 8;
            for (int k = 0; k < n; k++) {
                word = (word << 8) | (row[p + k] & 255);
            }
            same("put(" + word + ", " + n + ")", bit(shelf.put(word, n)), model.put(word, n));
        }
    }

    private byte[] spoilt(byte[] row) {
        if (random.nextInt(6) != 0 || row.length == 0) {
            return row;
        }
        byte[] other = row.clone();
        int p = random.nextInt(row.length);
        switch (random.nextInt(5)) {
            case 0:
                return java.util.Arrays.copyOf(row, p);
            case 1:
                return Check.join(row, Check.bytes(random.nextInt(8)));
            case 2:
                other[p] = (byte) random.nextInt(256);
                return other;
            case 3:
                other[p]++;
                return other;
            default:
                // A row with a byte twice, its first T mended or not.
                byte[] longer = Check.join(java.util.Arrays.copyOf(row, p + 1), java.util.Arrays.copyOfRange(row, p, row.length));
                if (random.nextBoolean()) {
                    longer[0]++;
                }
                return longer;
        }
    }

    private byte[] value(int type, int depth) {
        switch (type) {
            case 1:
                return Check.integer(NUMBERS[random.nextInt(NUMBERS.length)]);
            case 2:
                return Check.text(TEXTS[random.nextInt(TEXTS.length)]);
            case 3:
                return Check.document(elements(depth + 1, List.of()));
            case 4:
                byte[][] items = new byte[random.nextInt(4)][];
                for (int k = 0; k < items.length; k++) {
                    items[k] = value(type(depth + 1), depth + 1);
                }
                return Check.array(items);
            case 5:
                return Check.bool(random.nextBoolean());
            default:
                return Check.nothing();
        }
    }

    private int type(int depth) {
        // Now and then one that is too deep.
        if (depth > 4 && random.nextInt(20) != 0 || depth > 5) {
            return new int[] {1, 2, 5, 6}[random.nextInt(4)];
        }
        return new int[] {1, 2, 3, 3, 3, 4, 4, 4, 5, 6}[random.nextInt(10)];
    }

    private byte[] elements(int depth, List<String> used) {
        List<String> names = new ArrayList<>(used);
        byte[] all = {};
        int wanted = random.nextInt(4);
        for (int k = 0; k < wanted; k++) {
            String name = NAMES[random.nextInt(NAMES.length)];
            if (!names.contains(name) || random.nextInt(40) == 0) {
                names.add(name);
                all = Check.join(all, Check.element(name, value(type(depth), depth)));
            }
        }
        return all;
    }
}
