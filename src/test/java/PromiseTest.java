/** Each promise of the document by hand: ordinary inputs, the edges that it names, and wrong inputs. */
public final class PromiseTest {
    private static final int NONE = ThresholdDiff.NONE;
    private static final int FULL = ThresholdDiff.FULL;
    private static final int MIN = Integer.MIN_VALUE;
    private static final int MAX = Integer.MAX_VALUE;
    private static final int[] NOT_TEXTS = {-1, 2, 3, 16, MIN, MAX};
    private static final int[] NOT_SYMBOLS = {-1, 8, 9, MIN, MAX};
    private static final String SIXTEEN = "0123456701234567";

    public static void main(String[] args) {
        newObject();
        append();
        drop();
        change();
        swap();
        length();
        common();
        commonUpTo();
        commonFrom();
        bestList();
        bestListAtTies();
        script();
        scriptAtEdges();
        askedFirst();
        possible();
        contained();
        distance();
        orderAndLimits();
        objectsAreApart();
        Check.finish();
    }

    private static void newObject() {
        ThresholdDiff x = new ThresholdDiff();
        Check.dueTexts("1: new", x, "", "");
        Check.due("1: common", x.common(), 0);
        Check.due("1: distance", x.distance(), 0);
        Check.due("1: drop(0)", x.drop(0), NONE);
        Check.due("1: drop(1)", x.drop(1), NONE);
    }

    private static void append() {
        ThresholdDiff x = Check.texts("01234567", "7");
        Check.dueTexts("2: after appends", x, "01234567", "7");
        for (int which : NOT_TEXTS) {
            Check.due("2: append(" + which + ", 0)", x.append(which, 0), NONE);
        }
        for (int s : NOT_SYMBOLS) {
            Check.due("2: append(0, " + s + ")", x.append(0, s), NONE);
            Check.due("2: append(1, " + s + ")", x.append(1, s), NONE);
        }
        Check.dueTexts("2: after wrong appends", x, "01234567", "7");
    }

    private static void drop() {
        ThresholdDiff x = Check.texts("305", "62");
        Check.due("3: drop(0)", x.drop(0), 5);
        Check.dueTexts("3: after drop(0)", x, "30", "62");
        Check.due("3: drop(1)", x.drop(1), 2);
        Check.due("3: drop(1)", x.drop(1), 6);
        Check.due("3: drop(1) when empty", x.drop(1), NONE);
        Check.due("3: drop(1) when empty, again", x.drop(1), NONE);
        for (int which : NOT_TEXTS) {
            Check.due("3: drop(" + which + ")", x.drop(which), NONE);
        }
        Check.dueTexts("3: after all drops", x, "30", "");
        Check.due("3: append after drop", x.append(1, 4), 0);
        Check.dueTexts("3: after append", x, "30", "4");
        ThresholdDiff full = Check.texts(SIXTEEN, SIXTEEN);
        for (int k = 15; k >= 0; k--) {
            Check.due("3: drop(0) of 16", full.drop(0), k % 8);
        }
        Check.dueTexts("3: one text dropped whole", full, "", SIXTEEN);
    }

    private static void change() {
        ThresholdDiff x = Check.texts("012", "3456");
        Check.due("4: first place", x.change(0, 0, 7), true);
        Check.due("4: last place", x.change(1, 3, 0), true);
        Check.due("4: same symbol", x.change(0, 1, 1), true);
        Check.dueTexts("4: changed", x, "712", "3450");
        for (int which : NOT_TEXTS) {
            Check.due("4: change(" + which + ", 0, 1)", x.change(which, 0, 1), false);
        }
        for (int k : new int[] {-1, 3, 4, 15, 16, MIN, MAX}) {
            Check.due("4: change(0, " + k + ", 1)", x.change(0, k, 1), false);
        }
        for (int k : new int[] {-1, 4, 16, MIN, MAX}) {
            Check.due("4: change(1, " + k + ", 1)", x.change(1, k, 1), false);
        }
        for (int s : NOT_SYMBOLS) {
            Check.due("4: change(0, 0, " + s + ")", x.change(0, 0, s), false);
            Check.due("4: change(1, 0, " + s + ")", x.change(1, 0, s), false);
        }
        Check.dueTexts("4: after wrong changes", x, "712", "3450");
        Check.due("4: empty text", new ThresholdDiff().change(0, 0, 0), false);
        ThresholdDiff full = Check.texts(SIXTEEN, SIXTEEN);
        Check.due("4: place 15", full.change(0, 15, 0), true);
        Check.due("4: place 16", full.change(0, 16, 5), false);
        Check.dueTexts("4: full texts", full, "0123456701234560", SIXTEEN);
        Check.due("4: a dropped place", droppedOnce().change(0, 1, 3), false);
    }

    private static ThresholdDiff droppedOnce() {
        ThresholdDiff x = Check.texts("01", "");
        x.drop(0);
        return x;
    }

    private static void swap() {
        ThresholdDiff x = Check.texts("0123", "45");
        x.swap();
        Check.dueTexts("5: once", x, "45", "0123");
        Check.due("5: append", x.append(0, 6), 2);
        Check.due("5: drop", x.drop(1), 3);
        x.swap();
        Check.dueTexts("5: twice", x, "012", "456");
        ThresholdDiff full = Check.texts(SIXTEEN, "7");
        full.swap();
        Check.dueTexts("5: a full text", full, "7", SIXTEEN);
        Check.due("5: full moved along", full.append(1, 0), FULL);
        ThresholdDiff empty = new ThresholdDiff();
        empty.swap();
        Check.dueTexts("5: empty", empty, "", "");
    }

    private static void length() {
        ThresholdDiff x = Check.texts(SIXTEEN, "12");
        Check.due("6: length(0)", x.length(0), 16);
        Check.due("6: length(1)", x.length(1), 2);
        for (int which : NOT_TEXTS) {
            Check.due("6: length(" + which + ")", x.length(which), NONE);
        }
    }

    private static void common() {
        Check.due("7: nothing shared", Check.texts("0123", "4567").common(), 0);
        Check.due("7: one empty", Check.texts("0123", "").common(), 0);
        Check.due("7: the same", Check.texts(SIXTEEN, SIXTEEN).common(), 16);
        Check.due("7: backwards", Check.texts("01234567", "76543210").common(), 1);
        Check.due("7: ordinary", Check.texts("0123103", "1302130").common(), 4);
        Check.due("7: not the greedy one", Check.texts("0123", "1230").common(), 3);
        Check.due("7: symbol once only", Check.texts("0", "000").common(), 1);
    }

    private static void commonUpTo() {
        ThresholdDiff x = Check.texts("0121", "101");
        int[] due = {0, 0, 0, 0, 0, 0, 1, 1, 0, 1, 1, 2, 0, 1, 1, 2, 0, 1, 1, 2};
        for (int i = 0; i <= 4; i++) {
            for (int j = 0; j <= 3; j++) {
                Check.due("8: commonUpTo(" + i + ", " + j + ")", x.commonUpTo(i, j), due[i * 4 + j]);
            }
        }
        wrongBounds("8: commonUpTo", x, true);
        ThresholdDiff full = Check.texts(SIXTEEN, SIXTEEN);
        Check.due("8: both whole", full.commonUpTo(16, 16), 16);
        Check.due("8: 17", full.commonUpTo(17, 16), NONE);
        Check.due("8: 17", full.commonUpTo(16, 17), NONE);
    }

    private static void commonFrom() {
        ThresholdDiff x = Check.texts("0121", "101");
        int[] due = {2, 2, 1, 0, 2, 1, 1, 0, 1, 1, 1, 0, 1, 1, 1, 0, 0, 0, 0, 0};
        for (int i = 0; i <= 4; i++) {
            for (int j = 0; j <= 3; j++) {
                Check.due("9: commonFrom(" + i + ", " + j + ")", x.commonFrom(i, j), due[i * 4 + j]);
            }
        }
        wrongBounds("9: commonFrom", x, false);
        ThresholdDiff full = Check.texts(SIXTEEN, SIXTEEN);
        Check.due("9: both whole", full.commonFrom(0, 0), 16);
        Check.due("9: the ends", full.commonFrom(16, 16), 0);
        Check.due("9: 17", full.commonFrom(17, 0), NONE);
        Check.due("9: 17", full.commonFrom(0, 17), NONE);
    }

    /** x has 4 old symbols and 3 new ones, so that 4 is wrong for j alone. */
    private static void wrongBounds(String what, ThresholdDiff x, boolean upTo) {
        for (int i : new int[] {-1, 5, 16, 17, MIN, MAX}) {
            Check.due(what + "(" + i + ", 0)", upTo ? x.commonUpTo(i, 0) : x.commonFrom(i, 0), NONE);
        }
        for (int j : new int[] {-1, 4, 16, 17, MIN, MAX}) {
            Check.due(what + "(4, " + j + ")", upTo ? x.commonUpTo(4, j) : x.commonFrom(4, j), NONE);
        }
    }

    private static void bestList() {
        dueList("ordinary", Check.texts("0123103", "1302130"), 0, 2, 1, 4, 3, 5, 5, 6);
        dueList("the same", Check.texts("012", "012"), 0, 0, 1, 1, 2, 2);
        dueList("nothing shared", Check.texts("012", "345"));
        dueList("empty", Check.texts("", ""));
        dueList("one empty", Check.texts("", "1"));
        dueList("first old symbol is left out", Check.texts("0123", "1230"), 1, 0, 2, 1, 3, 2);
        ThresholdDiff full = Check.texts(SIXTEEN, SIXTEEN);
        Check.due("10: last pair", full.oldAt(15), 15);
        Check.due("11: last pair", full.newAt(15), 15);
        Check.due("10: after the last pair", full.oldAt(16), NONE);
        Check.due("11: after the last pair", full.newAt(16), NONE);
    }

    private static void bestListAtTies() {
        dueList("least i first", Check.texts("01", "10"), 0, 1);
        dueList("least j for the same i", Check.texts("0", "000"), 0, 0);
        dueList("least i of many", Check.texts("000", "0"), 0, 0);
        dueList("a far j for an early i", Check.texts("0120", "3012"), 0, 1, 1, 2, 2, 3);
        ThresholdDiff x = Check.texts("012", "210");
        dueList("i before j", x, 0, 2);
        x.swap();
        dueList("swapped, the new old text rules", x, 0, 2);
        dueList("a pair past the other text's length", Check.texts("3334", "4"), 3, 0);
        dueList("i1 before j1", Check.texts("7012", "7210"), 0, 0, 1, 3);
    }

    private static void dueList(String what, ThresholdDiff x, int... due) {
        for (int k = 0; k < due.length / 2; k++) {
            Check.due("10: " + what + ": oldAt(" + k + ")", x.oldAt(k), due[2 * k]);
            Check.due("11: " + what + ": newAt(" + k + ")", x.newAt(k), due[2 * k + 1]);
        }
        for (int k : new int[] {-1, due.length / 2, 16, 17, MIN, MAX}) {
            Check.due("10: " + what + ": oldAt(" + k + ")", x.oldAt(k), NONE);
            Check.due("11: " + what + ": newAt(" + k + ")", x.newAt(k), NONE);
        }
    }

    private static void script() {
        dueScript("ordinary", Check.texts("0123103", "1302130"), "P1 P3 K0 P2 K1 T2 K3 T1 K0 T3");
        dueScript("take before put", Check.texts("12", "34"), "T1 T2 P3 P4");
        dueScript("before a pair", Check.texts("120", "340"), "T1 T2 P3 P4 K0");
        dueScript("between pairs and at the end", Check.texts("01203", "05604"), "K0 T1 T2 P5 P6 K0 T3 P4");
        dueScript("the best list, not another one", Check.texts("01", "10"), "P1 K0 T1");
    }

    private static void scriptAtEdges() {
        dueScript("empty", Check.texts("", ""), "");
        dueScript("only taking", Check.texts("70", ""), "T7 T0");
        dueScript("only putting", Check.texts("", "07"), "P0 P7");
        dueScript("only keeping", Check.texts("07", "07"), "K0 K7");
        ThresholdDiff x = Check.texts("0000000000000000", "1111111111111111");
        Check.due("12: the longest script", x.steps(), 32);
        Check.due("13: its middle", x.step(15), ThresholdDiff.TAKE);
        Check.due("13: its middle", x.step(16), ThresholdDiff.PUT);
        Check.due("13: its end", x.step(31), ThresholdDiff.PUT);
        Check.due("14: its end", x.stepSymbol(31), 1);
        Check.due("13: after its end", x.step(32), NONE);
        Check.due("14: after its end", x.stepSymbol(32), NONE);
    }

    /** The due script is a list of K, T or P (KEEP, TAKE, PUT), each with its symbol. */
    private static void dueScript(String what, ThresholdDiff x, String due) {
        String[] steps = due.isEmpty() ? new String[0] : due.split(" ");
        Check.due("12: " + what + ": steps", x.steps(), steps.length);
        for (int n = 0; n < steps.length; n++) {
            Check.due("13: " + what + ": step(" + n + ")", x.step(n), "KTP".indexOf(steps[n].charAt(0)));
            Check.due("14: " + what + ": stepSymbol(" + n + ")", x.stepSymbol(n), steps[n].charAt(1) - '0');
        }
        for (int n : new int[] {-1, steps.length, 32, 33, MIN, MAX}) {
            Check.due("13: " + what + ": step(" + n + ")", x.step(n), NONE);
            Check.due("14: " + what + ": stepSymbol(" + n + ")", x.stepSymbol(n), NONE);
        }
    }

    /** No answer may hang on another question having been asked before it, or be left over from before a change. */
    private static void askedFirst() {
        Check.due("10: oldAt asked first", Check.texts("10", "0").oldAt(0), 1);
        Check.due("11: newAt asked first", Check.texts("0", "10").newAt(0), 1);
        Check.due("12: steps asked first", Check.texts("10", "0").steps(), 2);
        Check.due("13: step asked first", Check.texts("1", "").step(0), ThresholdDiff.TAKE);
        Check.due("14: stepSymbol asked first", Check.texts("1", "").stepSymbol(0), 1);
        for (int question = 0; question < 5; question++) {
            ThresholdDiff x = Check.texts("10", "0");
            dueAfter("texts 10 and 0", x, question, 1, 0, 2, ThresholdDiff.TAKE, 1);
            x.append(1, 1);
            dueAfter("append", x, question, 0, 1, 3, ThresholdDiff.PUT, 0);
            x.swap();
            x.change(1, 0, 0);
            dueAfter("swap and change", x, question, 0, 0, 3, ThresholdDiff.KEEP, 0);
            x.drop(1);
            x.drop(1);
            dueAfter("drop", x, question, NONE, NONE, 2, ThresholdDiff.TAKE, 0);
        }
    }

    /** Asks one question only, the one whose number is given, and compares with its due answer. */
    private static void dueAfter(String what, ThresholdDiff x, int question, int... due) {
        String name = (10 + question) + ": after " + what;
        switch (question) {
            case 0 -> Check.due(name, x.oldAt(0), due[0]);
            case 1 -> Check.due(name, x.newAt(0), due[1]);
            case 2 -> Check.due(name, x.steps(), due[2]);
            case 3 -> Check.due(name, x.step(0), due[3]);
            default -> Check.due(name, x.stepSymbol(0), due[4]);
        }
    }

    private static void possible() {
        ThresholdDiff x = Check.texts("0120", "0210");
        boolean[] due = {
            true, false, false, false,
            false, false, true, false,
            false, true, false, false,
            false, false, false, true};
        for (int i = 0; i < 4; i++) {
            for (int j = 0; j < 4; j++) {
                Check.due("15: possible(" + i + ", " + j + ")", x.possible(i, j), due[i * 4 + j]);
            }
        }
        for (int wrong : new int[] {-1, 4, 5, 16, 17, MIN, MAX}) {
            Check.due("15: possible(" + wrong + ", 0)", x.possible(wrong, 0), false);
            Check.due("15: possible(0, " + wrong + ")", x.possible(0, wrong), false);
        }
        ThresholdDiff y = Check.texts("00", "00000");
        Check.due("15: not in the best list", y.possible(1, 4), true);
        Check.due("15: leaves too few", y.possible(0, 4), false);
        Check.due("15: a place of the other text only", y.possible(4, 1), false);
        ThresholdDiff z = Check.texts("3012", "30124567");
        Check.due("15: pairs before and after", z.possible(1, 1), true);
        z.swap();
        Check.due("15: pairs before and after, swapped", z.possible(1, 1), true);
        Check.due("15: the same old place isn't used twice", Check.texts("01", "001").possible(0, 0), true);
        Check.due("15: empty", new ThresholdDiff().possible(0, 0), false);
        Check.due("15: full", Check.texts(SIXTEEN, SIXTEEN).possible(15, 15), true);
        Check.due("15: dropped", droppedFromBoth().possible(0, 0), false);
    }

    private static ThresholdDiff droppedFromBoth() {
        ThresholdDiff x = Check.texts("0", "0");
        x.drop(0);
        x.drop(1);
        return x;
    }

    private static void contained() {
        dueContained("both empty", Check.texts("", ""), true, true);
        dueContained("one empty", Check.texts("", "5"), true, false);
        dueContained("the same", Check.texts("01", "01"), true, true);
        dueContained("old in new", Check.texts("02", "012"), true, false);
        dueContained("new in old", Check.texts("012", "02"), false, true);
        dueContained("other order", Check.texts("01", "10"), false, false);
        for (int which : NOT_TEXTS) {
            Check.due("16: contained(" + which + ")", new ThresholdDiff().contained(which), false);
        }
    }

    private static void dueContained(String what, ThresholdDiff x, boolean old, boolean fresh) {
        Check.due("16: " + what + ": contained(0)", x.contained(0), old);
        Check.due("16: " + what + ": contained(1)", x.contained(1), fresh);
    }

    private static void distance() {
        Check.due("17: the same", Check.texts(SIXTEEN, SIXTEEN).distance(), 0);
        Check.due("17: a changed symbol counts two", Check.texts("012", "032").distance(), 2);
        Check.due("17: nothing shared", Check.texts("01", "234").distance(), 5);
        Check.due("17: greatest", Check.texts("0000000000000000", "1111111111111111").distance(), 32);
        Check.due("17: ordinary", Check.texts("0123103", "1302130").distance(), 6);
    }

    private static void orderAndLimits() {
        ThresholdDiff x = Check.texts(SIXTEEN, "1");
        Check.due("18: full", x.append(0, 3), FULL);
        Check.due("18: NONE before FULL, 8", x.append(0, 8), NONE);
        Check.due("18: NONE before FULL, -1", x.append(0, -1), NONE);
        Check.due("18: NONE before FULL, which", x.append(2, 0), NONE);
        Check.due("18: the other text isn't full", x.append(1, 2), 1);
        Check.dueTexts("18: FULL changes nothing", x, SIXTEEN, "12");
        Check.due("18: drop", x.drop(0), 7);
        Check.due("18: room again", x.append(0, 5), 15);
        Check.due("18: full again", x.append(0, 5), FULL);
        Check.dueTexts("18: at the end", x, "0123456701234565", "12");
        ThresholdDiff y = Check.texts("1", SIXTEEN);
        Check.due("18: the new text full", y.append(1, 0), FULL);
        Check.dueTexts("18: FULL changes nothing in the new text", y, "1", SIXTEEN);
    }

    private static void objectsAreApart() {
        ThresholdDiff x = Check.texts("01", "1");
        ThresholdDiff y = Check.texts("777", "");
        Check.dueTexts("1: the first of two objects", x, "01", "1");
        Check.dueTexts("1: the second of two objects", y, "777", "");
    }
}
