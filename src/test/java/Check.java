import java.util.function.Predicate;
import java.util.function.ToIntFunction;

/** Counts and prints the answers that are not the due ones; each test's main ends with finish. */
final class Check {
    private static int wrong = 0;
    private static int made = 0;
    private static String sentence = "";

    private Check() {
    }

    static void due(String what, int got, int want) {
        made++;
        if (got != want) {
            wrong++;
            System.out.println(sentence + what + " answered " + got + ", due is " + want);
        }
    }

    static void due(String what, boolean got, boolean want) {
        made++;
        if (got != want) {
            wrong++;
            System.out.println(sentence + what + " answered " + got + ", due is " + want);
        }
    }

    /** Runs the test of one sentence of the document, which then stands before each wrong answer. */
    static void sentence(String words, Runnable test) {
        sentence = words + " | ";
        int before = made;
        try {
            test.run();
        } catch (RuntimeException e) {
            due("a call that threw " + e, true, false);
        }
        due("a test that looked at nothing", made == before, false);
        sentence = "";
    }

    /** The call answers as due on an object with these texts, and leaves both as they are. */
    static void unchanged(String what, String old, String fresh, ToIntFunction<ThresholdDiff> call, int want) {
        ThresholdDiff x = texts(old, fresh);
        due(what, call.applyAsInt(x), want);
        dueTexts("after " + what, x, old, fresh);
    }

    static void unchanged(String what, String old, String fresh, Predicate<ThresholdDiff> call, boolean want) {
        ThresholdDiff x = texts(old, fresh);
        due(what, call.test(x), want);
        dueTexts("after " + what, x, old, fresh);
    }

    /**
     * Numbers that are not 0 .. greatest: the nearest ones, the farthest ones, and those that a mask, a narrow
     * type or a product that wraps around would take for a number inside.
     */
    static int[] outside(int greatest) {
        return new int[] {
            -1, greatest + 1, greatest + 2, -2, -16, 32, 33, 256, 257, 65536, 65537,
            1 << 27, 1 << 28, (1 << 28) + 1, Integer.MIN_VALUE, Integer.MIN_VALUE + 1, Integer.MAX_VALUE};
    }

    static void finish() {
        System.out.println(made + " answers looked at, " + wrong + " wrong");
        if (wrong != 0 || made == 0) {
            System.exit(1);
        }
    }

    /** A new object with the texts given as digits. */
    static ThresholdDiff texts(String old, String fresh) {
        ThresholdDiff x = new ThresholdDiff();
        fill(x, 0, old);
        fill(x, 1, fresh);
        return x;
    }

    private static void fill(ThresholdDiff x, int which, String digits) {
        for (int k = 0; k < digits.length(); k++) {
            due("append " + digits.charAt(k), x.append(which, digits.charAt(k) - '0'), k);
        }
    }

    /** The texts of an object are exactly these, told without drop: by lengths and a script's symbols. */
    static void dueTexts(String what, ThresholdDiff x, String old, String fresh) {
        due(what + ": length(0)", x.length(0), old.length());
        due(what + ": length(1)", x.length(1), fresh.length());
        StringBuilder oldSeen = new StringBuilder();
        StringBuilder newSeen = new StringBuilder();
        for (int n = 0; n < x.steps(); n++) {
            if (x.step(n) != ThresholdDiff.PUT) {
                oldSeen.append(x.stepSymbol(n));
            }
            if (x.step(n) != ThresholdDiff.TAKE) {
                newSeen.append(x.stepSymbol(n));
            }
        }
        due(what + ": old text " + oldSeen + " is " + old, oldSeen.toString().equals(old), true);
        due(what + ": new text " + newSeen + " is " + fresh, newSeen.toString().equals(fresh), true);
    }
}
