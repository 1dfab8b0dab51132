import java.util.HashSet;
import java.util.List;
import java.util.Set;

/** Counts the answers that are not the due ones, and says which. */
final class Check {
    private static int wrong = 0;
    private static int asked = 0;
    /** A fault that shows again and again is said once. */
    private static final Set<String> said = new HashSet<>();

    private Check() {
    }

    static void due(String what, long got, long want) {
        due(what, Long.toString(got), Long.toString(want));
    }

    static void due(String what, boolean got, boolean want) {
        due(what, Boolean.toString(got), Boolean.toString(want));
    }

    static void due(String what, byte[] got, byte[] want) {
        due(what, Written.hex(got), Written.hex(want));
    }

    static void due(String what, List<Integer> got, List<Integer> want) {
        due(what, got.toString(), want.toString());
    }

    private static void due(String what, String got, String want) {
        asked++;
        if (!got.equals(want)) {
            wrong++;
            String line = what + " answered " + got + ", due is " + want;
            if (said.add(line)) {
                System.out.println(line);
            }
        }
    }

    static void end() {
        System.out.println(asked + " answers, " + wrong + " wrong");
        if (wrong != 0 || asked == 0) {
            System.exit(1);
        }
    }
}
