/** Compares two short texts by their common subsequences. */
public final class ThresholdDiff {
    public static final int NONE = -1;
    public static final int FULL = -2;
    public static final int KEEP = 0;
    public static final int TAKE = 1;
    public static final int PUT = 2;

    private static final int OLD = 0;
    private static final int NEW = 1;
    private static final int SYMBOLS = 8;
    private static final int LIMIT = 16;
    private static final int ROW_CELLS = 17;
    private static final int BOTH_LIMITS = 32;

    // The old text starts at 0 and the new one at LIMIT, so that one formula finds a place of either.
    private final int[] symbols = new int[BOTH_LIMITS];
    private final int[] lengths = new int[2];

    // All below is filled anew by each question that needs it: only the texts last from call to call,
    // so no change of a text can leave an old answer behind.
    private final int[] row = new int[ROW_CELLS];
    private final int[] pairOld = new int[LIMIT];
    private final int[] pairNew = new int[LIMIT];
    private int pairCount;
    private final int[] stepKinds = new int[BOTH_LIMITS];
    private final int[] stepSymbols = new int[BOTH_LIMITS];
    private int stepCount;

    public ThresholdDiff() {
    }

    public int append(int which, int s) {
        if (!isText(which) || !isSymbol(s)) {
            return NONE;
        }
        int place = lengths[which];
        if (place >= LIMIT) {
            return FULL;
        }
        symbols[which * LIMIT + place] = s;
        lengths[which] = place + 1;
        return place;
    }

    public int drop(int which) {
        if (!isText(which) || lengths[which] == 0) {
            return NONE;
        }
        int last = lengths[which] - 1;
        lengths[which] = last;
        return symbols[which * LIMIT + last];
    }

    public boolean change(int which, int k, int s) {
        if (!isText(which) || !isPlace(which, k) || !isSymbol(s)) {
            return false;
        }
        symbols[which * LIMIT + k] = s;
        return true;
    }

    public void swap() {
        for (int k = 0; k < LIMIT; k++) {
            int symbol = symbols[k];
            symbols[k] = symbols[LIMIT + k];
            symbols[LIMIT + k] = symbol;
        }
        int length = lengths[OLD];
        lengths[OLD] = lengths[NEW];
        lengths[NEW] = length;
    }

    public int length(int which) {
        return isText(which) ? lengths[which] : NONE;
    }

    public int common() {
        return mostPairs(0, lengths[OLD], 0, lengths[NEW]);
    }

    public int commonUpTo(int i, int j) {
        if (!isBound(OLD, i) || !isBound(NEW, j)) {
            return NONE;
        }
        return mostPairs(0, i, 0, j);
    }

    public int commonFrom(int i, int j) {
        if (!isBound(OLD, i) || !isBound(NEW, j)) {
            return NONE;
        }
        return mostPairs(i, lengths[OLD], j, lengths[NEW]);
    }

    public int oldAt(int k) {
        findBestList();
        return k >= 0 && k < pairCount ? pairOld[k] : NONE;
    }

    public int newAt(int k) {
        findBestList();
        return k >= 0 && k < pairCount ? pairNew[k] : NONE;
    }

    public int steps() {
        writeScript();
        return stepCount;
    }

    public int step(int n) {
        writeScript();
        return n >= 0 && n < stepCount ? stepKinds[n] : NONE;
    }

    public int stepSymbol(int n) {
        writeScript();
        return n >= 0 && n < stepCount ? stepSymbols[n] : NONE;
    }

    public boolean possible(int i, int j) {
        if (!isPlace(OLD, i) || !isPlace(NEW, j) || symbols[i] != symbols[LIMIT + j]) {
            return false;
        }
        int before = mostPairs(0, i, 0, j);
        int after = mostPairs(i + 1, lengths[OLD], j + 1, lengths[NEW]);
        return before + 1 + after == common();
    }

    public boolean contained(int which) {
        return isText(which) && common() == lengths[which];
    }

    public int distance() {
        // Without exchanging symbols, all that is not kept is taken away or put in.
        return lengths[OLD] + lengths[NEW] - 2 * common();
    }

    private boolean isText(int which) {
        return which == OLD || which == NEW;
    }

    private boolean isSymbol(int s) {
        return s >= 0 && s < SYMBOLS;
    }

    private boolean isPlace(int text, int k) {
        return k >= 0 && k < lengths[text];
    }

    private boolean isBound(int text, int k) {
        return k >= 0 && k <= lengths[text];
    }

    // Every question comes down to this one, asked of other ranges; as in the document, a range ends before its "to".
    private int mostPairs(int oldFrom, int oldTo, int newFrom, int newTo) {
        for (int j = 0; j < ROW_CELLS; j++) {
            row[j] = 0;
        }
        for (int i = oldFrom; i < oldTo; i++) {
            // The row is overwritten in place, so the cell above and to the left is kept aside.
            int aboveLeft = 0;
            for (int j = newFrom; j < newTo; j++) {
                int above = row[j + 1];
                if (symbols[i] == symbols[LIMIT + j]) {
                    row[j + 1] = aboveLeft + 1;
                } else if (row[j] > above) {
                    row[j + 1] = row[j];
                }
                aboveLeft = above;
            }
        }
        return row[newTo];
    }

    private void findBestList() {
        pairCount = 0;
        int newFrom = 0;
        // Taking the first old place that costs no pair, with its first partner, gives the least list:
        // an earlier number always weighs more than all the later ones.
        for (int i = 0; i < lengths[OLD]; i++) {
            int j = partnerWithoutLoss(i, newFrom);
            if (j != NONE) {
                pairOld[pairCount] = i;
                pairNew[pairCount] = j;
                pairCount++;
                newFrom = j + 1;
            }
        }
    }

    private int partnerWithoutLoss(int i, int newFrom) {
        int most = mostPairs(i, lengths[OLD], newFrom, lengths[NEW]);
        for (int j = newFrom; j < lengths[NEW]; j++) {
            if (symbols[i] == symbols[LIMIT + j]) {
                int after = mostPairs(i + 1, lengths[OLD], j + 1, lengths[NEW]);
                // A later partner leaves no more behind it, so the first one decides.
                return after + 1 == most ? j : NONE;
            }
        }
        return NONE;
    }

    private void writeScript() {
        findBestList();
        stepCount = 0;
        int oldFrom = 0;
        int newFrom = 0;
        for (int k = 0; k < pairCount; k++) {
            int i = pairOld[k];
            int j = pairNew[k];
            writeGap(oldFrom, i, newFrom, j);
            writeStep(KEEP, symbols[i]);
            oldFrom = i + 1;
            newFrom = j + 1;
        }
        writeGap(oldFrom, lengths[OLD], newFrom, lengths[NEW]);
    }

    private void writeGap(int oldFrom, int oldTo, int newFrom, int newTo) {
        for (int i = oldFrom; i < oldTo; i++) {
            writeStep(TAKE, symbols[i]);
        }
        for (int j = newFrom; j < newTo; j++) {
            writeStep(PUT, symbols[LIMIT + j]);
        }
    }

    private void writeStep(int kind, int symbol) {
        stepKinds[stepCount] = kind;
        stepSymbols[stepCount] = symbol;
        stepCount++;
    }
}
