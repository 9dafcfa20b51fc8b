/**
 * One test for each sentence of the document that names a boundary: the terms of comparing, and the questions.
 * The calls that change a text are in ChangeBoundaryTest.
 */
public final class QuestionBoundaryTest {
    private static final int NONE = ThresholdDiff.NONE;
    private static final int KEEP = ThresholdDiff.KEEP;
    private static final int TAKE = ThresholdDiff.TAKE;
    private static final int PUT = ThresholdDiff.PUT;
    private static final String SIXTEEN = "0123456701234567";
    private static final String ZEROS = "0000000000000000";
    private static final String ONES = "1111111111111111";

    public static void main(String[] args) {
        Check.sentence("Terms: i and j both grow from each pair to the next", QuestionBoundaryTest::bothGrow);
        Check.sentence("Terms: places from .. to - 1 of a text", QuestionBoundaryTest::rangeEnds);
        Check.sentence("Terms: the most pairs before the least numbers", QuestionBoundaryTest::mostBeforeLeast);
        Check.sentence("Terms: least in the dictionary order", QuestionBoundaryTest::leastNumbers);
        Check.sentence("Terms: before each pair of it and at the end", QuestionBoundaryTest::gaps);
        Check.sentence("Terms: first taking away, then putting in", QuestionBoundaryTest::takingFirst);
        Check.sentence("7: of both whole texts: empty", QuestionBoundaryTest::commonOfEmpty);
        Check.sentence("7: of both whole texts: full", QuestionBoundaryTest::commonOfFull);
        Check.sentence("8: the places below i, below j: none and all", QuestionBoundaryTest::upToNoneAndAll);
        Check.sentence("8: NONE when i is not from 0 to the length of the old", QuestionBoundaryTest::upToWrongOld);
        Check.sentence("8: NONE when j is not from 0 to that of the new one", QuestionBoundaryTest::upToWrongNew);
        Check.sentence("9: the places from i on, from j on: none and all", QuestionBoundaryTest::fromNoneAndAll);
        Check.sentence("9: NONE as in commonUpTo: i", QuestionBoundaryTest::fromWrongOld);
        Check.sentence("9: NONE as in commonUpTo: j", QuestionBoundaryTest::fromWrongNew);
        Check.sentence("10: pair k (0 the first)", QuestionBoundaryTest::oldAtFirstAndLast);
        Check.sentence("10: NONE when there is no such pair", QuestionBoundaryTest::oldAtNoPair);
        Check.sentence("11: pair k (0 the first)", QuestionBoundaryTest::newAtFirstAndLast);
        Check.sentence("11: NONE when there is no such pair", QuestionBoundaryTest::newAtNoPair);
        Check.sentence("12: The number of steps", QuestionBoundaryTest::fewestAndMostSteps);
        Check.sentence("13: Step n of the script (0 the first)", QuestionBoundaryTest::stepFirstAndLast);
        Check.sentence("13: NONE when there is no such step", QuestionBoundaryTest::stepNone);
        Check.sentence("14: The symbol of step n", QuestionBoundaryTest::stepSymbolFirstAndLast);
        Check.sentence("14: NONE when there is no such step", QuestionBoundaryTest::stepSymbolNone);
        Check.sentence("15: some common subsequence with the most pairs", QuestionBoundaryTest::possibleFirstAndLast);
        Check.sentence("15: false when i is not a place of its text", QuestionBoundaryTest::possibleWrongOld);
        Check.sentence("15: false when j is not a place of its text", QuestionBoundaryTest::possibleWrongNew);
        Check.sentence("15: not a place of its text: empty or dropped", QuestionBoundaryTest::possibleNoPlaces);
        Check.sentence("16: whether common() is its length", QuestionBoundaryTest::containedEmptyAndFull);
        Check.sentence("16: false when which is not 0 or 1", QuestionBoundaryTest::containedNoText);
        Check.sentence("17: The least number of symbols", QuestionBoundaryTest::leastAndGreatestDistance);
        Check.finish();
    }

    private static void bothGrow() {
        Check.due("an old place is used once", Check.texts("0", "00").common(), 1);
        Check.due("a new place is used once", Check.texts("00", "0").common(), 1);
        Check.due("a full text of one symbol beside one", Check.texts(ZEROS, "0").common(), 1);
        Check.due("one symbol beside a full text of it", Check.texts("0", ZEROS).common(), 1);
        Check.due("crossing pairs", Check.texts("01", "10").common(), 1);
        ThresholdDiff x = Check.texts("00", "000");
        Check.due("old place of the second pair", x.oldAt(1), 1);
        Check.due("new place of the second pair", x.newAt(1), 1);
        Check.due("a third pair", x.oldAt(2), NONE);
    }

    private static void rangeEnds() {
        ThresholdDiff x = Check.texts("234", "343");
        Check.due("place 1 is not below 1", x.commonUpTo(1, 3), 0);
        Check.due("place 1 is below 2", x.commonUpTo(2, 3), 1);
        Check.due("place 0 is not below 0", x.commonUpTo(2, 0), 0);
        Check.due("place 0 is below 1", x.commonUpTo(2, 1), 1);
        Check.due("place 1 is from 1 on", x.commonFrom(1, 0), 2);
        Check.due("place 1 is not from 2 on", x.commonFrom(2, 0), 1);
        Check.due("place 1 is from 1 on, new", x.commonFrom(2, 1), 1);
        Check.due("place 1 is not from 2 on, new", x.commonFrom(2, 2), 0);
    }

    private static void mostBeforeLeast() {
        ThresholdDiff x = Check.texts("0123", "1230");
        Check.due("i0 is not 0, which leaves one pair only", x.oldAt(0), 1);
        Check.due("j0", x.newAt(0), 0);
        ThresholdDiff y = Check.texts("01", "1200201");
        Check.due("i0", y.oldAt(0), 0);
        Check.due("j0", y.newAt(0), 2);
        Check.due("i1", y.oldAt(1), 1);
        Check.due("j1", y.newAt(1), 6);
    }

    private static void leastNumbers() {
        ThresholdDiff x = Check.texts("01", "10");
        Check.due("a lesser i0 with a greater j0", x.oldAt(0), 0);
        Check.due("its j0", x.newAt(0), 1);
        ThresholdDiff y = Check.texts(ZEROS, "10");
        Check.due("the least of 16 old places", y.oldAt(0), 0);
        ThresholdDiff z = Check.texts("10", ZEROS);
        Check.due("the least of 16 new places", z.newAt(0), 0);
        ThresholdDiff second = Check.texts("701", "710");
        Check.due("i1 before j1", second.oldAt(1), 1);
        Check.due("j1", second.newAt(1), 2);
    }

    private static void gaps() {
        dueScript(Check.texts("5", "5"), "K5");
        dueScript(Check.texts("15", "5"), "T1 K5");
        dueScript(Check.texts("5", "25"), "P2 K5");
        dueScript(Check.texts("51", "5"), "K5 T1");
        dueScript(Check.texts("5", "52"), "K5 P2");
        dueScript(Check.texts("516", "56"), "K5 T1 K6");
        dueScript(Check.texts("56", "526"), "K5 P2 K6");
        dueScript(Check.texts("1", "2"), "T1 P2");
        dueScript(Check.texts("1", ""), "T1");
        dueScript(Check.texts("", "2"), "P2");
        dueScript(Check.texts("", ""), "");
        dueScript(Check.texts("0556", "5617"), "T0 K5 T5 K6 P1 P7");
    }

    private static void takingFirst() {
        dueScript(Check.texts("125", "345"), "T1 T2 P3 P4 K5");
        dueScript(Check.texts("5126", "5346"), "K5 T1 T2 P3 P4 K6");
        dueScript(Check.texts("512", "534"), "K5 T1 T2 P3 P4");
        dueScript(Check.texts("12", "34"), "T1 T2 P3 P4");
    }

    private static void dueScript(ThresholdDiff x, String due) {
        StringBuilder got = new StringBuilder();
        for (int n = 0; n < x.steps(); n++) {
            int kind = x.step(n);
            got.append(n > 0 ? " " : "").append(kind >= 0 && kind <= 2 ? "KTP".charAt(kind) : '?');
            got.append(x.stepSymbol(n));
        }
        Check.due("script " + got + " is " + due, got.toString().equals(due), true);
    }

    private static void commonOfEmpty() {
        Check.due("both empty", Check.texts("", "").common(), 0);
        Check.due("old empty", Check.texts("", "01234567").common(), 0);
        Check.due("new empty", Check.texts("01234567", "").common(), 0);
        Check.due("old empty, new full", Check.texts("", SIXTEEN).common(), 0);
        Check.due("new empty, old full", Check.texts(SIXTEEN, "").common(), 0);
        // Symbol 0 is what an unused place is likely to hold.
        Check.due("old empty beside zeros", Check.texts("", ZEROS).common(), 0);
        Check.due("new empty beside zeros", Check.texts(ZEROS, "").common(), 0);
        ThresholdDiff dropped = Check.texts("3", "3");
        dropped.drop(0);
        Check.due("dropped", dropped.common(), 0);
    }

    private static void commonOfFull() {
        Check.due("the same", Check.texts(SIXTEEN, SIXTEEN).common(), 16);
        Check.due("one symbol", Check.texts(ZEROS, ZEROS).common(), 16);
        Check.due("nothing shared", Check.texts(ZEROS, ONES).common(), 0);
        Check.due("the last places alone", Check.texts("0000000000000002", "1111111111111112").common(), 1);
        Check.due("the first places alone", Check.texts("2000000000000000", "2111111111111111").common(), 1);
        Check.due("first and last", Check.texts("2000000000000000", "1111111111111112").common(), 1);
        Check.due("last and first", Check.texts("0000000000000002", "2111111111111111").common(), 1);
        Check.due("one place on", Check.texts("0123456701234567", "7012345670123456").common(), 15);
    }

    private static void upToNoneAndAll() {
        ThresholdDiff x = Check.texts(SIXTEEN, ZEROS);
        for (int k = 0; k <= 16; k++) {
            Check.due("commonUpTo(0, " + k + ")", x.commonUpTo(0, k), 0);
            Check.due("commonUpTo(" + k + ", 0)", x.commonUpTo(k, 0), 0);
        }
        Check.due("commonUpTo(16, 16)", x.commonUpTo(16, 16), 2);
        ThresholdDiff full = Check.texts(SIXTEEN, SIXTEEN);
        for (int k = 0; k <= 16; k++) {
            Check.due("commonUpTo(" + k + ", 16)", full.commonUpTo(k, 16), k);
            Check.due("commonUpTo(16, " + k + ")", full.commonUpTo(16, k), k);
        }
        Check.due("both empty", new ThresholdDiff().commonUpTo(0, 0), 0);
        Check.due("old empty", Check.texts("", "0").commonUpTo(0, 1), 0);
        Check.due("new empty", Check.texts("0", "").commonUpTo(1, 0), 0);
    }

    private static void upToWrongOld() {
        for (int i : Check.outside(2)) {
            Check.unchanged("commonUpTo(" + i + ", 0)", "12", "12345", x -> x.commonUpTo(i, 0), NONE);
            Check.unchanged("commonUpTo(" + i + ", 5)", "12", "12345", x -> x.commonUpTo(i, 5), NONE);
        }
        for (int i : Check.outside(16)) {
            Check.unchanged("commonUpTo(" + i + ", 16)", SIXTEEN, SIXTEEN, x -> x.commonUpTo(i, 16), NONE);
        }
        for (int i : Check.outside(0)) {
            Check.unchanged("commonUpTo(" + i + ", 0), old empty", "", "12", x -> x.commonUpTo(i, 0), NONE);
        }
    }

    private static void upToWrongNew() {
        for (int j : Check.outside(2)) {
            Check.unchanged("commonUpTo(0, " + j + ")", "12345", "12", x -> x.commonUpTo(0, j), NONE);
            Check.unchanged("commonUpTo(5, " + j + ")", "12345", "12", x -> x.commonUpTo(5, j), NONE);
        }
        for (int j : Check.outside(16)) {
            Check.unchanged("commonUpTo(16, " + j + ")", SIXTEEN, SIXTEEN, x -> x.commonUpTo(16, j), NONE);
        }
        for (int j : Check.outside(0)) {
            Check.unchanged("commonUpTo(0, " + j + "), new empty", "12", "", x -> x.commonUpTo(0, j), NONE);
        }
        Check.unchanged("commonUpTo(-1, -1)", "12", "12", x -> x.commonUpTo(-1, -1), NONE);
    }

    private static void fromNoneAndAll() {
        ThresholdDiff x = Check.texts(SIXTEEN, ZEROS);
        for (int k = 0; k <= 16; k++) {
            Check.due("commonFrom(16, " + k + ")", x.commonFrom(16, k), 0);
            Check.due("commonFrom(" + k + ", 16)", x.commonFrom(k, 16), 0);
        }
        Check.due("commonFrom(0, 0)", x.commonFrom(0, 0), 2);
        ThresholdDiff full = Check.texts(SIXTEEN, SIXTEEN);
        for (int k = 0; k <= 16; k++) {
            Check.due("commonFrom(" + k + ", 0)", full.commonFrom(k, 0), 16 - k);
            Check.due("commonFrom(0, " + k + ")", full.commonFrom(0, k), 16 - k);
        }
        Check.due("both empty", new ThresholdDiff().commonFrom(0, 0), 0);
        Check.due("old empty", Check.texts("", "0").commonFrom(0, 0), 0);
        Check.due("new empty", Check.texts("0", "").commonFrom(0, 0), 0);
    }

    private static void fromWrongOld() {
        for (int i : Check.outside(2)) {
            Check.unchanged("commonFrom(" + i + ", 0)", "12", "12345", x -> x.commonFrom(i, 0), NONE);
            Check.unchanged("commonFrom(" + i + ", 5)", "12", "12345", x -> x.commonFrom(i, 5), NONE);
        }
        for (int i : Check.outside(16)) {
            Check.unchanged("commonFrom(" + i + ", 16)", SIXTEEN, SIXTEEN, x -> x.commonFrom(i, 16), NONE);
        }
        for (int i : Check.outside(0)) {
            Check.unchanged("commonFrom(" + i + ", 0), old empty", "", "12", x -> x.commonFrom(i, 0), NONE);
        }
    }

    private static void fromWrongNew() {
        for (int j : Check.outside(2)) {
            Check.unchanged("commonFrom(0, " + j + ")", "12345", "12", x -> x.commonFrom(0, j), NONE);
            Check.unchanged("commonFrom(5, " + j + ")", "12345", "12", x -> x.commonFrom(5, j), NONE);
        }
        for (int j : Check.outside(16)) {
            Check.unchanged("commonFrom(16, " + j + ")", SIXTEEN, SIXTEEN, x -> x.commonFrom(16, j), NONE);
        }
        for (int j : Check.outside(0)) {
            Check.unchanged("commonFrom(0, " + j + "), new empty", "12", "", x -> x.commonFrom(0, j), NONE);
        }
        Check.unchanged("commonFrom(-1, -1)", "12", "12", x -> x.commonFrom(-1, -1), NONE);
    }

    private static void oldAtFirstAndLast() {
        ThresholdDiff full = Check.texts(SIXTEEN, SIXTEEN);
        Check.due("the first of 16", full.oldAt(0), 0);
        Check.due("the last of 16", full.oldAt(15), 15);
        ThresholdDiff one = Check.texts("0000000000000002", "2111111111111111");
        Check.due("the only one", one.oldAt(0), 15);
        ThresholdDiff two = Check.texts("5162", "562");
        Check.due("the first of three", two.oldAt(0), 0);
        Check.due("the last of three", two.oldAt(2), 3);
    }

    private static void oldAtNoPair() {
        for (int k : Check.outside(2)) {
            Check.unchanged("oldAt(" + k + ") of three", "5162", "562", x -> x.oldAt(k), NONE);
        }
        for (int k : Check.outside(15)) {
            Check.unchanged("oldAt(" + k + ") of 16", SIXTEEN, SIXTEEN, x -> x.oldAt(k), NONE);
        }
        for (int k : new int[] {-1, 0, 1, 15, 16}) {
            Check.unchanged("oldAt(" + k + ") of none", "01", "23", x -> x.oldAt(k), NONE);
            Check.unchanged("oldAt(" + k + "), both empty", "", "", x -> x.oldAt(k), NONE);
            Check.unchanged("oldAt(" + k + "), old empty", "", "0", x -> x.oldAt(k), NONE);
            Check.unchanged("oldAt(" + k + "), new empty", "0", "", x -> x.oldAt(k), NONE);
        }
        ThresholdDiff fewer = Check.texts("12", "12");
        Check.due("the second of two", fewer.oldAt(1), 1);
        fewer.drop(1);
        Check.due("the second, dropped", fewer.oldAt(1), NONE);
    }

    private static void newAtFirstAndLast() {
        ThresholdDiff full = Check.texts(SIXTEEN, SIXTEEN);
        Check.due("the first of 16", full.newAt(0), 0);
        Check.due("the last of 16", full.newAt(15), 15);
        ThresholdDiff one = Check.texts("2111111111111111", "0000000000000002");
        Check.due("the only one", one.newAt(0), 15);
        ThresholdDiff two = Check.texts("562", "5162");
        Check.due("the first of three", two.newAt(0), 0);
        Check.due("the last of three", two.newAt(2), 3);
    }

    private static void newAtNoPair() {
        for (int k : Check.outside(2)) {
            Check.unchanged("newAt(" + k + ") of three", "562", "5162", x -> x.newAt(k), NONE);
        }
        for (int k : Check.outside(15)) {
            Check.unchanged("newAt(" + k + ") of 16", SIXTEEN, SIXTEEN, x -> x.newAt(k), NONE);
        }
        for (int k : new int[] {-1, 0, 1, 15, 16}) {
            Check.unchanged("newAt(" + k + ") of none", "01", "23", x -> x.newAt(k), NONE);
            Check.unchanged("newAt(" + k + "), both empty", "", "", x -> x.newAt(k), NONE);
            Check.unchanged("newAt(" + k + "), old empty", "", "0", x -> x.newAt(k), NONE);
            Check.unchanged("newAt(" + k + "), new empty", "0", "", x -> x.newAt(k), NONE);
        }
        ThresholdDiff fewer = Check.texts("12", "12");
        Check.due("the second of two", fewer.newAt(1), 1);
        fewer.drop(0);
        Check.due("the second, dropped", fewer.newAt(1), NONE);
    }

    private static void fewestAndMostSteps() {
        Check.due("both empty", Check.texts("", "").steps(), 0);
        Check.due("old empty", Check.texts("", SIXTEEN).steps(), 16);
        Check.due("new empty", Check.texts(SIXTEEN, "").steps(), 16);
        Check.due("the same", Check.texts(SIXTEEN, SIXTEEN).steps(), 16);
        Check.due("nothing shared", Check.texts(ZEROS, ONES).steps(), 32);
        Check.due("one shared", Check.texts("0000000000000002", "1111111111111112").steps(), 31);
        ThresholdDiff emptied = Check.texts("1", "");
        Check.due("one step", emptied.steps(), 1);
        emptied.drop(0);
        Check.due("emptied", emptied.steps(), 0);
    }

    private static void stepFirstAndLast() {
        ThresholdDiff most = Check.texts(ZEROS, ONES);
        Check.due("the first of 32", most.step(0), TAKE);
        Check.due("the last taking", most.step(15), TAKE);
        Check.due("the first putting", most.step(16), PUT);
        Check.due("the last of 32", most.step(31), PUT);
        ThresholdDiff same = Check.texts(SIXTEEN, SIXTEEN);
        Check.due("the first of 16 keeping", same.step(0), KEEP);
        Check.due("the last of 16 keeping", same.step(15), KEEP);
        Check.due("the only one, keeping", Check.texts("5", "5").step(0), KEEP);
        Check.due("the only one, taking", Check.texts("5", "").step(0), TAKE);
        Check.due("the only one, putting", Check.texts("", "5").step(0), PUT);
    }

    private static void stepNone() {
        for (int n : Check.outside(3)) {
            Check.unchanged("step(" + n + ") of four", "125", "35", x -> x.step(n), NONE);
        }
        for (int n : Check.outside(31)) {
            Check.unchanged("step(" + n + ") of 32", ZEROS, ONES, x -> x.step(n), NONE);
        }
        for (int n : Check.outside(15)) {
            Check.unchanged("step(" + n + ") of 16", SIXTEEN, SIXTEEN, x -> x.step(n), NONE);
        }
        for (int n : new int[] {-1, 0, 1, 31, 32}) {
            Check.unchanged("step(" + n + ") of none", "", "", x -> x.step(n), NONE);
        }
        ThresholdDiff fewer = Check.texts("12", "");
        Check.due("the second of two", fewer.step(1), TAKE);
        fewer.drop(0);
        Check.due("the second, dropped", fewer.step(1), NONE);
    }

    private static void stepSymbolFirstAndLast() {
        ThresholdDiff most = Check.texts("7000000000000006", "5111111111111114");
        Check.due("the first of 32", most.stepSymbol(0), 7);
        Check.due("the last taken", most.stepSymbol(15), 6);
        Check.due("the first put", most.stepSymbol(16), 5);
        Check.due("the last of 32", most.stepSymbol(31), 4);
        ThresholdDiff same = Check.texts(SIXTEEN, SIXTEEN);
        Check.due("the first of 16 kept", same.stepSymbol(0), 0);
        Check.due("the last of 16 kept", same.stepSymbol(15), 7);
        Check.due("the only one, kept", Check.texts("5", "5").stepSymbol(0), 5);
        Check.due("the only one, taken", Check.texts("7", "").stepSymbol(0), 7);
        Check.due("the only one, put", Check.texts("", "7").stepSymbol(0), 7);
        Check.due("the symbol 0 is not NONE", Check.texts("", "0").stepSymbol(0), 0);
    }

    private static void stepSymbolNone() {
        for (int n : Check.outside(3)) {
            Check.unchanged("stepSymbol(" + n + ") of four", "125", "35", x -> x.stepSymbol(n), NONE);
        }
        for (int n : Check.outside(31)) {
            Check.unchanged("stepSymbol(" + n + ") of 32", ZEROS, ONES, x -> x.stepSymbol(n), NONE);
        }
        for (int n : Check.outside(15)) {
            Check.unchanged("stepSymbol(" + n + ") of 16", SIXTEEN, SIXTEEN, x -> x.stepSymbol(n), NONE);
        }
        for (int n : new int[] {-1, 0, 1, 31, 32}) {
            Check.unchanged("stepSymbol(" + n + ") of none", "", "", x -> x.stepSymbol(n), NONE);
        }
        ThresholdDiff fewer = Check.texts("12", "");
        Check.due("the second of two", fewer.stepSymbol(1), 2);
        fewer.drop(0);
        Check.due("the second, dropped", fewer.stepSymbol(1), NONE);
    }

    private static void possibleFirstAndLast() {
        ThresholdDiff full = Check.texts(SIXTEEN, SIXTEEN);
        Check.due("possible(0, 0)", full.possible(0, 0), true);
        Check.due("possible(15, 15)", full.possible(15, 15), true);
        Check.due("the same symbol, too few pairs", full.possible(0, 8), false);
        Check.due("the same symbol, too few pairs", full.possible(15, 7), false);
        Check.due("another symbol", full.possible(0, 15), false);
        Check.due("far corners", Check.texts("2000000000000000", "1111111111111112").possible(0, 15), true);
        Check.due("far corners", Check.texts("0000000000000002", "2111111111111111").possible(15, 0), true);
        Check.due("the only places", Check.texts("0", "0").possible(0, 0), true);
        Check.due("the only places, another symbol", Check.texts("0", "1").possible(0, 0), false);
        Check.due("enough pairs, another symbol", Check.texts("01", "10").possible(0, 0), false);
        Check.due("enough pairs, another symbol", Check.texts("01", "10").possible(1, 1), false);
        Check.due("no common symbol at all", Check.texts("01", "23").possible(1, 1), false);
        Check.due("not in the best list", Check.texts("00", "0").possible(1, 0), true);
        Check.due("one pair too few", Check.texts("012", "120").possible(0, 2), false);
    }

    /** Zeros alone: a place taken for one of the text would give a pair with every place of the other one. */
    private static void possibleWrongOld() {
        for (int i : Check.outside(1)) {
            for (int j = 0; j < 5; j++) {
                duePossibleNever("00", "00000", i, j);
            }
        }
        for (int i : Check.outside(15)) {
            duePossibleNever(ZEROS, ZEROS, i, 15);
            duePossibleNever(ZEROS, "0", i, 0);
        }
        for (int i : Check.outside(0)) {
            duePossibleNever("0", ZEROS, i, 0);
        }
    }

    private static void possibleWrongNew() {
        for (int j : Check.outside(1)) {
            for (int i = 0; i < 5; i++) {
                duePossibleNever("00000", "00", i, j);
            }
        }
        for (int j : Check.outside(15)) {
            duePossibleNever(ZEROS, ZEROS, 15, j);
            duePossibleNever("0", ZEROS, 0, j);
        }
        for (int j : Check.outside(0)) {
            duePossibleNever(ZEROS, "0", 0, j);
        }
        duePossibleNever("00", "00", -1, -1);
        duePossibleNever("00", "00", 2, 2);
    }

    private static void duePossibleNever(String old, String fresh, int i, int j) {
        String call = "possible(" + i + ", " + j + ") of " + old + ", " + fresh;
        Check.unchanged(call, old, fresh, x -> x.possible(i, j), false);
    }

    private static void possibleNoPlaces() {
        Check.due("both empty", new ThresholdDiff().possible(0, 0), false);
        Check.due("old empty", Check.texts("", "0").possible(0, 0), false);
        Check.due("new empty", Check.texts("0", "").possible(0, 0), false);
        for (int k = 0; k <= 1; k++) {
            ThresholdDiff x = Check.texts("33", "33");
            x.drop(0);
            Check.due("possible(1, " + k + ") after drop(0)", x.possible(1, k), false);
            ThresholdDiff y = Check.texts("33", "33");
            y.drop(1);
            Check.due("possible(" + k + ", 1) after drop(1)", y.possible(k, 1), false);
        }
    }

    private static void containedEmptyAndFull() {
        dueContained("both empty", "", "", true, true);
        dueContained("an empty old text in any", "", "7", true, false);
        dueContained("an empty new text in any", "7", "", false, true);
        dueContained("an empty text in a full one", "", SIXTEEN, true, false);
        dueContained("an empty text in a full one", SIXTEEN, "", false, true);
        dueContained("full and the same", SIXTEEN, SIXTEEN, true, true);
        dueContained("full, one symbol apart", SIXTEEN, "0123456701234566", false, false);
        dueContained("full, nothing shared", ZEROS, ONES, false, false);
        dueContained("15 in 16", "123456701234567", SIXTEEN, true, false);
        dueContained("15 in 16", SIXTEEN, "012345670123456", false, true);
    }

    private static void dueContained(String what, String old, String fresh, boolean oldDue, boolean newDue) {
        ThresholdDiff x = Check.texts(old, fresh);
        Check.due(what + ": contained(0)", x.contained(0), oldDue);
        Check.due(what + ": contained(1)", x.contained(1), newDue);
    }

    private static void containedNoText() {
        for (int which : Check.outside(1)) {
            Check.unchanged("contained(" + which + ") when empty", "", "", x -> x.contained(which), false);
            Check.unchanged("contained(" + which + ")", "01", "01", x -> x.contained(which), false);
            Check.unchanged("contained(" + which + ") when full", ZEROS, ZEROS, x -> x.contained(which), false);
        }
    }

    private static void leastAndGreatestDistance() {
        Check.due("both empty", Check.texts("", "").distance(), 0);
        Check.due("old empty", Check.texts("", SIXTEEN).distance(), 16);
        Check.due("new empty", Check.texts(SIXTEEN, "").distance(), 16);
        Check.due("the same", Check.texts(SIXTEEN, SIXTEEN).distance(), 0);
        Check.due("nothing shared", Check.texts(ZEROS, ONES).distance(), 32);
        Check.due("one symbol taken", Check.texts("0", "").distance(), 1);
        Check.due("one symbol put", Check.texts("", "0").distance(), 1);
        Check.due("one symbol changed", Check.texts("0", "1").distance(), 2);
        Check.due("the last of 16 changed", Check.texts(SIXTEEN, "0123456701234566").distance(), 2);
    }
}
