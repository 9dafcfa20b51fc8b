import java.util.ArrayList;
import java.util.Arrays;
import java.util.List;

/**
 * Compares every question with an answer found by trying all sets of old places, for all pairs of very
 * short texts and for a fixed choice of long ones.
 */
public final class BruteForceTest {
    private static int[] old;
    private static int[] fresh;
    /** most[i][j]: the most pairs below i and below j; rest[i][j]: from i and from j on. */
    private static int[][] most;
    private static int[][] rest;
    private static boolean[][] canPair;
    private static int[] best;

    public static void main(String[] args) {
        List<int[]> shortTexts = allTexts(4, 3);
        for (int[] a : shortTexts) {
            for (int[] b : shortTexts) {
                compare(a, b);
            }
        }
        int seed = 12345;
        for (int n = 0; n < 120; n++) {
            int symbols = 1 + n % 8;
            int[] a = new int[n % 3 == 0 ? 16 : 7 + n % 10];
            int[] b = new int[n % 4 == 0 ? 16 : 6 + n % 11];
            seed = scatter(a, symbols, seed);
            seed = scatter(b, symbols, seed);
            compare(a, b);
        }
        Check.finish();
    }

    private static List<int[]> allTexts(int longest, int symbols) {
        List<int[]> all = new ArrayList<>();
        all.add(new int[0]);
        for (int at = 0; at < all.size(); at++) {
            int[] text = all.get(at);
            for (int s = 0; s < symbols && text.length < longest; s++) {
                int[] longer = Arrays.copyOf(text, text.length + 1);
                longer[text.length] = s;
                all.add(longer);
            }
        }
        return all;
    }

    private static int scatter(int[] text, int symbols, int seed) {
        for (int k = 0; k < text.length; k++) {
            seed = seed * 1103515245 + 12345;
            text[k] = (seed >>> 16) % symbols;
        }
        return seed;
    }

    private static void compare(int[] a, int[] b) {
        old = a;
        fresh = b;
        findAll();
        String name = Arrays.toString(a) + Arrays.toString(b) + " ";
        compareWhole(name, filled());
        // The document lets an object be used for 512 calls only, so each part has its own.
        for (int i = -1; i <= old.length + 1; i++) {
            compareRow(name, filled(), i);
        }
        compareList(name, filled());
        compareScript(name, filled());
    }

    private static ThresholdDiff filled() {
        ThresholdDiff x = new ThresholdDiff();
        for (int s : old) {
            x.append(0, s);
        }
        for (int s : fresh) {
            x.append(1, s);
        }
        return x;
    }

    private static void findAll() {
        most = new int[old.length + 1][fresh.length + 1];
        rest = new int[old.length + 1][fresh.length + 1];
        best = new int[0];
        for (int set = 0; set < 1 << old.length; set++) {
            int[] places = placesOf(set);
            int[] first = firstPartners(places);
            if (first != null) {
                count(places, first, lastPartners(places));
                keepIfBetter(places, first);
            }
        }
        spread();
        canPair = new boolean[old.length][fresh.length];
        for (int set = 0; set < 1 << old.length; set++) {
            if (Integer.bitCount(set) == best.length / 2) {
                markPairs(placesOf(set));
            }
        }
    }

    private static int[] placesOf(int set) {
        int[] places = new int[Integer.bitCount(set)];
        int n = 0;
        for (int i = 0; i < old.length; i++) {
            if ((set >> i & 1) == 1) {
                places[n++] = i;
            }
        }
        return places;
    }

    private static int[] firstPartners(int[] places) {
        int[] partners = new int[places.length];
        int j = 0;
        for (int n = 0; n < places.length; n++) {
            while (j < fresh.length && fresh[j] != old[places[n]]) {
                j++;
            }
            if (j == fresh.length) {
                return null;
            }
            partners[n] = j++;
        }
        return partners;
    }

    private static int[] lastPartners(int[] places) {
        int[] partners = new int[places.length];
        int j = fresh.length - 1;
        for (int n = places.length - 1; n >= 0; n--) {
            while (fresh[j] != old[places[n]]) {
                j--;
            }
            partners[n] = j--;
        }
        return partners;
    }

    private static void count(int[] places, int[] first, int[] last) {
        int n = places.length;
        if (n > 0) {
            int i = places[n - 1] + 1;
            int j = first[n - 1] + 1;
            most[i][j] = Math.max(most[i][j], n);
            rest[places[0]][last[0]] = Math.max(rest[places[0]][last[0]], n);
        }
    }

    private static void keepIfBetter(int[] places, int[] partners) {
        int[] list = new int[2 * places.length];
        for (int n = 0; n < places.length; n++) {
            list[2 * n] = places[n];
            list[2 * n + 1] = partners[n];
        }
        boolean less = list.length == best.length && Arrays.compare(list, best) < 0;
        if (list.length > best.length || less) {
            best = list;
        }
    }

    /** A range has all the common subsequences of the ranges inside it. */
    private static void spread() {
        for (int i = 0; i <= old.length; i++) {
            for (int j = 0; j <= fresh.length; j++) {
                most[i][j] = Math.max(most[i][j], i > 0 ? most[i - 1][j] : 0);
                most[i][j] = Math.max(most[i][j], j > 0 ? most[i][j - 1] : 0);
            }
        }
        for (int i = old.length; i >= 0; i--) {
            for (int j = fresh.length; j >= 0; j--) {
                rest[i][j] = Math.max(rest[i][j], i < old.length ? rest[i + 1][j] : 0);
                rest[i][j] = Math.max(rest[i][j], j < fresh.length ? rest[i][j + 1] : 0);
            }
        }
    }

    private static void markPairs(int[] places) {
        int[] first = firstPartners(places);
        if (first == null) {
            return;
        }
        int[] last = lastPartners(places);
        for (int n = 0; n < places.length; n++) {
            for (int j = first[n]; j <= last[n]; j++) {
                canPair[places[n]][j] |= fresh[j] == old[places[n]];
            }
        }
    }

    private static void compareWhole(String name, ThresholdDiff x) {
        int pairs = best.length / 2;
        Check.due(name + "common", x.common(), pairs);
        Check.due(name + "distance", x.distance(), old.length + fresh.length - 2 * pairs);
        Check.due(name + "contained(0)", x.contained(0), pairs == old.length);
        Check.due(name + "contained(1)", x.contained(1), pairs == fresh.length);
    }

    private static void compareRow(String name, ThresholdDiff x, int i) {
        for (int j = -1; j <= fresh.length + 1; j++) {
            boolean bounds = i >= 0 && i <= old.length && j >= 0 && j <= fresh.length;
            boolean places = bounds && i < old.length && j < fresh.length;
            String at = "(" + i + ", " + j + ")";
            Check.due(name + "commonUpTo" + at, x.commonUpTo(i, j), bounds ? most[i][j] : ThresholdDiff.NONE);
            Check.due(name + "commonFrom" + at, x.commonFrom(i, j), bounds ? rest[i][j] : ThresholdDiff.NONE);
            Check.due(name + "possible" + at, x.possible(i, j), places && canPair[i][j]);
        }
    }

    private static void compareList(String name, ThresholdDiff x) {
        for (int k = -1; k <= 17; k++) {
            boolean pair = k >= 0 && k < best.length / 2;
            Check.due(name + "oldAt " + k, x.oldAt(k), pair ? best[2 * k] : ThresholdDiff.NONE);
            Check.due(name + "newAt " + k, x.newAt(k), pair ? best[2 * k + 1] : ThresholdDiff.NONE);
        }
    }

    private static void compareScript(String name, ThresholdDiff x) {
        List<int[]> script = new ArrayList<>();
        int i = 0;
        int j = 0;
        for (int k = 0; k <= best.length / 2; k++) {
            boolean pair = k < best.length / 2;
            int nextOld = pair ? best[2 * k] : old.length;
            int nextNew = pair ? best[2 * k + 1] : fresh.length;
            for (; i < nextOld; i++) {
                script.add(new int[] {ThresholdDiff.TAKE, old[i]});
            }
            for (; j < nextNew; j++) {
                script.add(new int[] {ThresholdDiff.PUT, fresh[j]});
            }
            if (pair) {
                script.add(new int[] {ThresholdDiff.KEEP, old[i]});
                i++;
                j++;
            }
        }
        Check.due(name + "steps", x.steps(), script.size());
        for (int n = -1; n <= script.size(); n++) {
            boolean there = n >= 0 && n < script.size();
            Check.due(name + "step " + n, x.step(n), there ? script.get(n)[0] : ThresholdDiff.NONE);
            Check.due(name + "stepSymbol " + n, x.stepSymbol(n), there ? script.get(n)[1] : ThresholdDiff.NONE);
        }
    }
}
