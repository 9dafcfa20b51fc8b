/** Counts and prints the answers that are not the due ones; each test's main ends with finish. */
final class Check {
    private static int wrong = 0;
    private static int made = 0;

    private Check() {
    }

    static void due(String what, int got, int want) {
        made++;
        if (got != want) {
            wrong++;
            System.out.println(what + " answered " + got + ", due is " + want);
        }
    }

    static void due(String what, boolean got, boolean want) {
        made++;
        if (got != want) {
            wrong++;
            System.out.println(what + " answered " + got + ", due is " + want);
        }
    }

    static void finish() {
        System.out.println(made + " answers looked at, " + wrong + " wrong");
        if (wrong != 0 || made == 0) {
            System.exit(1);
        }
    }

    /** A new object with the texts given as digits. */
    static ThresholdDiff texts(String old, String fresh) {
        ThresholdDiff x = new ThresholdDiff();
        fill(x, 0, old);
        fill(x, 1, fresh);
        return x;
    }

    private static void fill(ThresholdDiff x, int which, String digits) {
        for (int k = 0; k < digits.length(); k++) {
            due("append " + digits.charAt(k), x.append(which, digits.charAt(k) - '0'), k);
        }
    }

    /** The texts of an object are exactly these, told without drop: by lengths and a script's symbols. */
    static void dueTexts(String what, ThresholdDiff x, String old, String fresh) {
        due(what + ": length(0)", x.length(0), old.length());
        due(what + ": length(1)", x.length(1), fresh.length());
        StringBuilder oldSeen = new StringBuilder();
        StringBuilder newSeen = new StringBuilder();
        for (int n = 0; n < x.steps(); n++) {
            if (x.step(n) != ThresholdDiff.PUT) {
                oldSeen.append(x.stepSymbol(n));
            }
            if (x.step(n) != ThresholdDiff.TAKE) {
                newSeen.append(x.stepSymbol(n));
            }
        }
        due(what + ": old text " + oldSeen + " is " + old, oldSeen.toString().equals(old), true);
        due(what + ": new text " + newSeen + " is " + fresh, newSeen.toString().equals(fresh), true);
    }
}
