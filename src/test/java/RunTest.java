import java.util.List;

/**
 * Long runs of all calls in mixed order, each answer compared with the Model's: no question may disturb a later
 * one, and no change may leave an answer behind. The runs are fixed, so a wrong answer comes back every time.
 */
public final class RunTest {
    private static final int CALLS = 512;
    private static final int RUNS = 400;
    private static final int[] FAR = {
        Integer.MIN_VALUE, -17, -2, -1, 16, 17, 31, 32, 33, 256, 65536, Integer.MAX_VALUE};

    private static int seed = 1;

    public static void main(String[] args) {
        for (int run = 0; run < RUNS; run++) {
            // The share of symbols and of drops decides how long and how alike the texts grow.
            mixedRun(run, 1 + run % 8, run / 8 % 5);
        }
        Check.finish();
    }

    private static void mixedRun(int run, int symbols, int drops) {
        ThresholdDiff x = new ThresholdDiff();
        Model model = new Model();
        for (int call = 1; call <= CALLS; call++) {
            String what = "run " + run + ", call " + call + ", " + model + ": ";
            if (below(2) == 0) {
                change(what, x, model, symbols, drops);
            } else {
                ask(what, x, model);
            }
        }
    }

    private static void change(String what, ThresholdDiff x, Model model, int symbols, int drops) {
        int which = oftenBelow(2);
        int s = oftenBelow(symbols);
        int kind = below(8 + drops);
        if (kind < 5) {
            Check.due(what + "append(" + which + ", " + s + ")", x.append(which, s), model.append(which, s));
        } else if (kind == 5) {
            x.swap();
            model.swap();
        } else if (kind == 6) {
            int k = oftenBelow(16);
            String call = "change(" + which + ", " + k + ", " + s + ")";
            Check.due(what + call, x.change(which, k, s), model.change(which, k, s));
        } else {
            Check.due(what + "drop(" + which + ")", x.drop(which), model.drop(which));
        }
    }

    private static void ask(String what, ThresholdDiff x, Model model) {
        int which = oftenBelow(2);
        int i = oftenBelow(model.length(0) + 1);
        int j = oftenBelow(model.length(1) + 1);
        String at = "(" + i + ", " + j + ")";
        switch (below(12)) {
            case 0 -> Check.due(what + "length(" + which + ")", x.length(which), model.length(which));
            case 1 -> Check.due(what + "common()", x.common(), model.list().length / 2);
            case 2 -> Check.due(what + "commonUpTo" + at, x.commonUpTo(i, j), model.commonUpTo(i, j));
            case 3 -> Check.due(what + "commonFrom" + at, x.commonFrom(i, j), model.commonFrom(i, j));
            case 4 -> askList(what, x, model.list(), false);
            case 5 -> askList(what, x, model.list(), true);
            case 6 -> Check.due(what + "steps()", x.steps(), model.script().size());
            case 7 -> askScript(what, x, model.script(), false);
            case 8 -> askScript(what, x, model.script(), true);
            case 9 -> Check.due(what + "possible" + at, x.possible(i, j), model.possible(i, j));
            case 10 -> Check.due(what + "contained(" + which + ")", x.contained(which), model.contained(which));
            default -> Check.due(what + "distance()", x.distance(), model.distance());
        }
    }

    private static void askList(String what, ThresholdDiff x, int[] list, boolean newPlace) {
        int k = oftenBelow(list.length / 2 + 1);
        boolean isPair = k >= 0 && k < list.length / 2;
        if (newPlace) {
            Check.due(what + "newAt(" + k + ")", x.newAt(k), isPair ? list[2 * k + 1] : ThresholdDiff.NONE);
        } else {
            Check.due(what + "oldAt(" + k + ")", x.oldAt(k), isPair ? list[2 * k] : ThresholdDiff.NONE);
        }
    }

    private static void askScript(String what, ThresholdDiff x, List<int[]> script, boolean symbol) {
        int n = oftenBelow(script.size() + 1);
        boolean isStep = n >= 0 && n < script.size();
        if (symbol) {
            Check.due(what + "stepSymbol(" + n + ")", x.stepSymbol(n), isStep ? script.get(n)[1] : ThresholdDiff.NONE);
        } else {
            Check.due(what + "step(" + n + ")", x.step(n), isStep ? script.get(n)[0] : ThresholdDiff.NONE);
        }
    }

    /** A number 0 .. count - 1, or now and then one that is too large, too small or far away. */
    private static int oftenBelow(int count) {
        int kind = below(24);
        if (kind == 0) {
            return FAR[below(FAR.length)];
        }
        return kind == 1 ? count + below(2) : below(count);
    }

    private static int below(int count) {
        seed = seed * 1103515245 + 12345;
        return (seed >>> 16) % count;
    }
}
