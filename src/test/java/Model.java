import java.util.ArrayList;
import java.util.Arrays;
import java.util.List;

/**
 * The document's words as plainly as they can be written, over lists and without a thought of speed. It finds the
 * best list in another way than the class: lists are compared whole, number by number.
 */
final class Model {
    private static final int LIMIT = 16;
    private List<Integer> old = new ArrayList<>();
    private List<Integer> fresh = new ArrayList<>();
    /** best[i][j]: the best list of the old places from i on and the new ones from j on, as i0, j0, i1, j1, .. */
    private int[][][] best;

    int append(int which, int s) {
        if (which != 0 && which != 1 || s < 0 || s > 7) {
            return ThresholdDiff.NONE;
        }
        if (text(which).size() == LIMIT) {
            return ThresholdDiff.FULL;
        }
        text(which).add(s);
        best = null;
        return text(which).size() - 1;
    }

    int drop(int which) {
        if (which != 0 && which != 1 || text(which).isEmpty()) {
            return ThresholdDiff.NONE;
        }
        best = null;
        return text(which).remove(text(which).size() - 1);
    }

    boolean change(int which, int k, int s) {
        if (which != 0 && which != 1 || k < 0 || k >= text(which).size() || s < 0 || s > 7) {
            return false;
        }
        text(which).set(k, s);
        best = null;
        return true;
    }

    void swap() {
        List<Integer> kept = old;
        old = fresh;
        fresh = kept;
        best = null;
    }

    int length(int which) {
        return which == 0 || which == 1 ? text(which).size() : ThresholdDiff.NONE;
    }

    int commonUpTo(int i, int j) {
        if (i < 0 || i > old.size() || j < 0 || j > fresh.size()) {
            return ThresholdDiff.NONE;
        }
        return bestLists(old.subList(0, i), fresh.subList(0, j))[0][0].length / 2;
    }

    int commonFrom(int i, int j) {
        if (i < 0 || i > old.size() || j < 0 || j > fresh.size()) {
            return ThresholdDiff.NONE;
        }
        return best()[i][j].length / 2;
    }

    /** All pairs of the best list, i0, j0, i1, j1, .. */
    int[] list() {
        return best()[0][0];
    }

    /** The script's steps, two numbers each: the kind and the symbol. */
    List<int[]> script() {
        List<int[]> steps = new ArrayList<>();
        int[] list = list();
        int i = 0;
        int j = 0;
        for (int at = 0; at <= list.length; at += 2) {
            boolean atEnd = at == list.length;
            for (; i < (atEnd ? old.size() : list[at]); i++) {
                steps.add(new int[] {ThresholdDiff.TAKE, old.get(i)});
            }
            for (; j < (atEnd ? fresh.size() : list[at + 1]); j++) {
                steps.add(new int[] {ThresholdDiff.PUT, fresh.get(j)});
            }
            if (!atEnd) {
                steps.add(new int[] {ThresholdDiff.KEEP, old.get(i)});
                i++;
                j++;
            }
        }
        return steps;
    }

    /** Follows every list with the most pairs from its first pair on and looks for (i, j) in one of them. */
    boolean possible(int i, int j) {
        boolean[][] reached = new boolean[old.size() + 1][fresh.size() + 1];
        reached[0][0] = true;
        boolean found = false;
        for (int from = 0; from <= old.size(); from++) {
            for (int newFrom = 0; newFrom <= fresh.size(); newFrom++) {
                for (int a = from; reached[from][newFrom] && a < old.size(); a++) {
                    for (int b = newFrom; b < fresh.size(); b++) {
                        boolean pair = old.get(a).equals(fresh.get(b));
                        if (pair && best()[a + 1][b + 1].length + 2 == best()[from][newFrom].length) {
                            reached[a + 1][b + 1] = true;
                            found |= a == i && b == j;
                        }
                    }
                }
            }
        }
        return found;
    }

    boolean contained(int which) {
        if (which != 0 && which != 1) {
            return false;
        }
        int seen = 0;
        for (int s : text(1 - which)) {
            if (seen < text(which).size() && text(which).get(seen) == s) {
                seen++;
            }
        }
        return seen == text(which).size();
    }

    /** Counts symbols taken away and put in alone, without a thought of pairs. */
    int distance() {
        int[][] least = new int[old.size() + 1][fresh.size() + 1];
        for (int i = 0; i <= old.size(); i++) {
            for (int j = 0; j <= fresh.size(); j++) {
                if (i == 0 || j == 0) {
                    least[i][j] = i + j;
                } else if (old.get(i - 1).equals(fresh.get(j - 1))) {
                    least[i][j] = least[i - 1][j - 1];
                } else {
                    least[i][j] = 1 + Math.min(least[i - 1][j], least[i][j - 1]);
                }
            }
        }
        return least[old.size()][fresh.size()];
    }

    @Override
    public String toString() {
        return old + " " + fresh;
    }

    private List<Integer> text(int which) {
        return which == 0 ? old : fresh;
    }

    private int[][][] best() {
        if (best == null) {
            best = bestLists(old, fresh);
        }
        return best;
    }

    private static int[][][] bestLists(List<Integer> a, List<Integer> b) {
        int[][][] lists = new int[a.size() + 1][b.size() + 1][0];
        for (int i = a.size() - 1; i >= 0; i--) {
            for (int j = b.size() - 1; j >= 0; j--) {
                lists[i][j] = better(lists[i + 1][j], lists[i][j + 1]);
                if (a.get(i).equals(b.get(j))) {
                    lists[i][j] = better(lists[i][j], joined(i, j, lists[i + 1][j + 1]));
                }
            }
        }
        return lists;
    }

    private static int[] better(int[] one, int[] other) {
        if (one.length != other.length) {
            return one.length > other.length ? one : other;
        }
        return Arrays.compare(one, other) <= 0 ? one : other;
    }

    private static int[] joined(int i, int j, int[] rest) {
        int[] list = new int[rest.length + 2];
        list[0] = i;
        list[1] = j;
        System.arraycopy(rest, 0, list, 2, rest.length);
        return list;
    }
}
