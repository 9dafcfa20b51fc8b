/**
 * One test for each sentence of the document that names a boundary: what the object is, the first terms, and the
 * calls that change a text or tell its length. The questions are in QuestionBoundaryTest.
 */
public final class ChangeBoundaryTest {
    private static final int NONE = ThresholdDiff.NONE;
    private static final int FULL = ThresholdDiff.FULL;
    private static final String FIFTEEN = "765432107654321";
    private static final String SIXTEEN = "0123456701234567";
    private static final String OTHER_SIXTEEN = "7766554433221100";

    public static void main(String[] args) {
        Check.sentence("used for at most 512 calls", ChangeBoundaryTest::lastOfItsCalls);
        Check.sentence("Terms: Symbols are 0 .. 7", ChangeBoundaryTest::everySymbol);
        Check.sentence("Terms: There are two TEXTS, the old one (0) and the new one (1)", ChangeBoundaryTest::twoTexts);
        Check.sentence("Terms: each a list of at most 16 symbols", ChangeBoundaryTest::atMostSixteen);
        Check.sentence("Terms: at places 0, 1, ..", ChangeBoundaryTest::placesFromZero);
        Check.sentence("1: Both texts empty", ChangeBoundaryTest::newObject);
        Check.sentence("2: answers its place", ChangeBoundaryTest::appendFirstAndLast);
        Check.sentence("2: NONE, changing nothing, when which is not 0 or 1", ChangeBoundaryTest::appendToNoText);
        Check.sentence("2: NONE, changing nothing, when s is not 0 .. 7", ChangeBoundaryTest::appendNoSymbol);
        Check.sentence("2: FULL when the text has 16 symbols", ChangeBoundaryTest::appendToFull);
        Check.sentence("3: Takes the last symbol of a text away and answers it", ChangeBoundaryTest::dropToTheEnd);
        Check.sentence("3: NONE when which is not 0 or 1", ChangeBoundaryTest::dropFromNoText);
        Check.sentence("3: NONE when the text is empty", ChangeBoundaryTest::dropFromEmpty);
        Check.sentence("4: Changes the symbol at place k of a text to s", ChangeBoundaryTest::changeFirstAndLast);
        Check.sentence("4: false, changing nothing, when which is not 0 or 1", ChangeBoundaryTest::changeInNoText);
        Check.sentence("4: false, changing nothing, when k is not a place of it", ChangeBoundaryTest::changeAtNoPlace);
        Check.sentence("4: k is not a place of it: the text is empty", ChangeBoundaryTest::changeInEmpty);
        Check.sentence("4: k is not a place of it: it is one of the other text", ChangeBoundaryTest::changeOtherPlace);
        Check.sentence("4: k is not a place of it: not any more", ChangeBoundaryTest::changeAtLostPlace);
        Check.sentence("4: false, changing nothing, when s is not 0 .. 7", ChangeBoundaryTest::changeToNoSymbol);
        Check.sentence("5: Exchanges the two texts: empty ones", ChangeBoundaryTest::swapEmpty);
        Check.sentence("5: Exchanges the two texts: full ones", ChangeBoundaryTest::swapFull);
        Check.sentence("5: Exchanges the two texts: an empty and a full one", ChangeBoundaryTest::swapEmptyAndFull);
        Check.sentence("6: The number of symbols of a text", ChangeBoundaryTest::lengthFromEmptyToFull);
        Check.sentence("6: NONE when which is not 0 or 1", ChangeBoundaryTest::lengthOfNoText);
        Check.sentence("18: NONE is tested before FULL", ChangeBoundaryTest::noneBeforeFull);
        Check.sentence("18: with FULL nothing changes, too", ChangeBoundaryTest::fullChangesNothing);
        Check.finish();
    }

    private static void lastOfItsCalls() {
        ThresholdDiff x = new ThresholdDiff();
        int calls = 0;
        // One round is 33 calls: fill, one too many, and 16 drops. 15 rounds are 495 calls.
        for (; calls < 495; calls += 33) {
            for (int k = 0; k < 16; k++) {
                Check.due("append in call " + (calls + k + 1), x.append(1, k % 8), k);
            }
            Check.due("append in call " + (calls + 17), x.append(1, 0), FULL);
            for (int k = 15; k >= 0; k--) {
                Check.due("drop in call " + (calls + 33 - k), x.drop(1), k % 8);
            }
        }
        Check.due("calls so far", calls, 495);
        Check.due("append, call 496", x.append(0, 1), 0);
        Check.due("append, call 497", x.append(0, 2), 1);
        Check.due("append, call 498", x.append(1, 2), 0);
        Check.due("append, call 499", x.append(1, 3), 1);
        Check.due("common, call 500", x.common(), 1);
        Check.due("commonUpTo, call 501", x.commonUpTo(2, 1), 1);
        Check.due("commonFrom, call 502", x.commonFrom(2, 0), 0);
        Check.due("oldAt, call 503", x.oldAt(0), 1);
        Check.due("newAt, call 504", x.newAt(0), 0);
        Check.due("steps, call 505", x.steps(), 3);
        Check.due("step, call 506", x.step(2), ThresholdDiff.PUT);
        Check.due("stepSymbol, call 507", x.stepSymbol(2), 3);
        Check.due("possible, call 508", x.possible(1, 0), true);
        Check.due("contained, call 509", x.contained(0), false);
        Check.due("distance, call 510", x.distance(), 2);
        Check.due("change, call 511", x.change(1, 1, 0), true);
        Check.due("drop, call 512", x.drop(1), 0);
    }

    private static void everySymbol() {
        for (int which = 0; which <= 1; which++) {
            for (int s = 0; s <= 7; s++) {
                ThresholdDiff x = new ThresholdDiff();
                Check.due("append(" + which + ", " + s + ")", x.append(which, s), 0);
                Check.due("its symbol", x.stepSymbol(0), s);
                Check.due("change(" + which + ", 0, " + (7 - s) + ")", x.change(which, 0, 7 - s), true);
                Check.due("its changed symbol", x.drop(which), 7 - s);
            }
        }
        // Each symbol is the same as itself alone.
        for (int s = 0; s <= 7; s++) {
            for (int t = 0; t <= 7; t++) {
                Check.due(s + " and " + t, Check.texts("" + s, "" + t).common(), s == t ? 1 : 0);
            }
        }
    }

    private static void twoTexts() {
        ThresholdDiff x = new ThresholdDiff();
        Check.due("append(0, 3)", x.append(0, 3), 0);
        Check.dueTexts("the old one", x, "3", "");
        Check.due("append(1, 4)", x.append(1, 4), 0);
        Check.dueTexts("the new one", x, "3", "4");
        Check.due("change(0, 0, 5)", x.change(0, 0, 5), true);
        Check.dueTexts("the old one changed", x, "5", "4");
        Check.due("change(1, 0, 6)", x.change(1, 0, 6), true);
        Check.dueTexts("the new one changed", x, "5", "6");
        Check.due("drop(0)", x.drop(0), 5);
        Check.dueTexts("the old one dropped", x, "", "6");
        Check.due("drop(1)", x.drop(1), 6);
        Check.dueTexts("the new one dropped", x, "", "");
    }

    private static void atMostSixteen() {
        Check.dueTexts("15 and 16", Check.texts(FIFTEEN, SIXTEEN), FIFTEEN, SIXTEEN);
        Check.dueTexts("16 and 15", Check.texts(SIXTEEN, FIFTEEN), SIXTEEN, FIFTEEN);
        ThresholdDiff x = Check.texts(SIXTEEN, OTHER_SIXTEEN);
        Check.dueTexts("16 and 16", x, SIXTEEN, OTHER_SIXTEEN);
        x.append(0, 0);
        x.append(1, 0);
        Check.dueTexts("one symbol more", x, SIXTEEN, OTHER_SIXTEEN);
    }

    private static void placesFromZero() {
        for (int k = 0; k < 16; k++) {
            ThresholdDiff x = Check.texts("0000000000000000", "1111111111111111");
            x.change(0, k, 7);
            x.change(1, 15 - k, 7);
            Check.due("old place of the only common symbol", x.oldAt(0), k);
            Check.due("new place of the only common symbol", x.newAt(0), 15 - k);
        }
    }

    private static void newObject() {
        Check.due("length(0)", new ThresholdDiff().length(0), 0);
        Check.due("length(1)", new ThresholdDiff().length(1), 0);
        Check.due("drop(0)", new ThresholdDiff().drop(0), NONE);
        Check.due("drop(1)", new ThresholdDiff().drop(1), NONE);
        Check.due("change(0, 0, 0)", new ThresholdDiff().change(0, 0, 0), false);
        Check.due("change(1, 0, 0)", new ThresholdDiff().change(1, 0, 0), false);
        Check.due("append(0, 7)", new ThresholdDiff().append(0, 7), 0);
        Check.due("append(1, 7)", new ThresholdDiff().append(1, 7), 0);
        Check.due("common()", new ThresholdDiff().common(), 0);
        Check.due("commonUpTo(0, 0)", new ThresholdDiff().commonUpTo(0, 0), 0);
        Check.due("commonFrom(0, 0)", new ThresholdDiff().commonFrom(0, 0), 0);
        Check.due("oldAt(0)", new ThresholdDiff().oldAt(0), NONE);
        Check.due("newAt(0)", new ThresholdDiff().newAt(0), NONE);
        Check.due("steps()", new ThresholdDiff().steps(), 0);
        Check.due("step(0)", new ThresholdDiff().step(0), NONE);
        Check.due("stepSymbol(0)", new ThresholdDiff().stepSymbol(0), NONE);
        Check.due("possible(0, 0)", new ThresholdDiff().possible(0, 0), false);
        Check.due("contained(0)", new ThresholdDiff().contained(0), true);
        Check.due("contained(1)", new ThresholdDiff().contained(1), true);
        Check.due("distance()", new ThresholdDiff().distance(), 0);
    }

    private static void appendFirstAndLast() {
        for (int which = 0; which <= 1; which++) {
            ThresholdDiff x = new ThresholdDiff();
            for (int k = 0; k < 16; k++) {
                Check.due("append to text " + which, x.append(which, 7), k);
            }
            x.drop(which);
            Check.due("append after drop", x.append(which, 0), 15);
            Check.due("the other text's first", x.append(1 - which, 0), 0);
        }
    }

    private static void appendToNoText() {
        for (int which : Check.outside(1)) {
            String call = "append(" + which + ", 0)";
            Check.unchanged(call + " when empty", "", "", x -> x.append(which, 0), NONE);
            Check.unchanged(call, "12", "345", x -> x.append(which, 0), NONE);
        }
        Check.unchanged("append(2, 8)", "12", "345", x -> x.append(2, 8), NONE);
        Check.unchanged("append(-1, -1)", "12", "345", x -> x.append(-1, -1), NONE);
    }

    private static void appendNoSymbol() {
        for (int s : Check.outside(7)) {
            for (int which = 0; which <= 1; which++) {
                int text = which;
                String call = "append(" + text + ", " + s + ")";
                Check.unchanged(call + " when empty", "", "", x -> x.append(text, s), NONE);
                Check.unchanged(call, "12", "345", x -> x.append(text, s), NONE);
            }
        }
    }

    private static void appendToFull() {
        for (int s = 0; s <= 7; s++) {
            ThresholdDiff x = Check.texts(SIXTEEN, FIFTEEN);
            Check.due("append to the full old text", x.append(0, s), FULL);
            Check.due("the new one has 15", x.append(1, s), 15);
            Check.due("append to the full new text", x.append(1, s), FULL);
            Check.due("append to the full new text, again", x.append(1, s), FULL);
            ThresholdDiff y = Check.texts(FIFTEEN, SIXTEEN);
            Check.due("append to the new text alone full", y.append(1, s), FULL);
            Check.due("the old one has 15", y.append(0, s), 15);
            Check.due("append to the old text now full", y.append(0, s), FULL);
        }
    }

    private static void dropToTheEnd() {
        ThresholdDiff x = Check.texts(SIXTEEN, OTHER_SIXTEEN);
        for (int k = 15; k >= 0; k--) {
            Check.due("drop(0) at length " + (k + 1), x.drop(0), SIXTEEN.charAt(k) - '0');
            Check.due("length after it", x.length(0), k);
            Check.due("drop(1) at length " + (k + 1), x.drop(1), OTHER_SIXTEEN.charAt(k) - '0');
            Check.due("length after it", x.length(1), k);
        }
        ThresholdDiff y = Check.texts("6", "3");
        Check.due("drop(0) of one symbol", y.drop(0), 6);
        Check.dueTexts("its rest", y, "", "3");
        Check.due("drop(1) of one symbol", y.drop(1), 3);
        Check.dueTexts("its rest", y, "", "");
    }

    private static void dropFromNoText() {
        for (int which : Check.outside(1)) {
            Check.unchanged("drop(" + which + ")", "12", "345", x -> x.drop(which), NONE);
            Check.unchanged("drop(" + which + ") when empty", "", "", x -> x.drop(which), NONE);
            Check.unchanged("drop(" + which + ") when full", SIXTEEN, SIXTEEN, x -> x.drop(which), NONE);
        }
    }

    private static void dropFromEmpty() {
        Check.unchanged("drop(0)", "", "345", x -> x.drop(0), NONE);
        Check.unchanged("drop(1)", "12", "", x -> x.drop(1), NONE);
        Check.unchanged("drop(0) beside a full text", "", SIXTEEN, x -> x.drop(0), NONE);
        Check.unchanged("drop(1) beside a full text", SIXTEEN, "", x -> x.drop(1), NONE);
        for (int which = 0; which <= 1; which++) {
            ThresholdDiff x = Check.texts("5", "5");
            x.drop(which);
            Check.due("emptied", x.drop(which), NONE);
            Check.due("emptied, again", x.drop(which), NONE);
            Check.due("append after that", x.append(which, 2), 0);
            Check.due("drop of it", x.drop(which), 2);
        }
    }

    private static void changeFirstAndLast() {
        ThresholdDiff x = Check.texts(SIXTEEN, OTHER_SIXTEEN);
        Check.due("old place 0", x.change(0, 0, 7), true);
        Check.dueTexts("old place 0", x, "7123456701234567", OTHER_SIXTEEN);
        Check.due("old place 15", x.change(0, 15, 0), true);
        Check.dueTexts("old place 15", x, "7123456701234560", OTHER_SIXTEEN);
        ThresholdDiff y = Check.texts(SIXTEEN, OTHER_SIXTEEN);
        Check.due("new place 0", y.change(1, 0, 0), true);
        Check.dueTexts("new place 0", y, SIXTEEN, "0766554433221100");
        Check.due("new place 15", y.change(1, 15, 7), true);
        Check.dueTexts("new place 15", y, SIXTEEN, "0766554433221107");
        ThresholdDiff z = Check.texts("1", "2");
        Check.due("the only old place", z.change(0, 0, 3), true);
        Check.due("the only new place", z.change(1, 0, 4), true);
        Check.due("to the symbol that it has", z.change(1, 0, 4), true);
        Check.dueTexts("the only places", z, "3", "4");
    }

    private static void changeInNoText() {
        for (int which : Check.outside(1)) {
            Check.unchanged("change(" + which + ", 0, 7)", "12", "345", x -> x.change(which, 0, 7), false);
            Check.unchanged("change(" + which + ", 1, 0)", "12", "345", x -> x.change(which, 1, 0), false);
        }
        Check.unchanged("change(2, 3, 8)", "12", "345", x -> x.change(2, 3, 8), false);
    }

    private static void changeAtNoPlace() {
        for (int k : Check.outside(1)) {
            Check.unchanged("change(0, " + k + ", 7)", "12", "34", x -> x.change(0, k, 7), false);
            Check.unchanged("change(1, " + k + ", 7)", "12", "34", x -> x.change(1, k, 7), false);
        }
        for (int k : Check.outside(15)) {
            String call = ", " + k + ", 4) when full";
            Check.unchanged("change(0" + call, SIXTEEN, OTHER_SIXTEEN, x -> x.change(0, k, 4), false);
            Check.unchanged("change(1" + call, SIXTEEN, OTHER_SIXTEEN, x -> x.change(1, k, 4), false);
        }
    }

    private static void changeInEmpty() {
        for (int k : new int[] {-1, 0, 1, 15, 16}) {
            Check.unchanged("change(0, " + k + ", 7)", "", "34", x -> x.change(0, k, 7), false);
            Check.unchanged("change(1, " + k + ", 7)", "12", "", x -> x.change(1, k, 7), false);
        }
    }

    private static void changeOtherPlace() {
        for (int k = 2; k < 16; k++) {
            int place = k;
            Check.unchanged("change(0, " + k + ", 7)", "12", SIXTEEN, x -> x.change(0, place, 7), false);
            Check.unchanged("change(1, " + k + ", 7)", SIXTEEN, "12", x -> x.change(1, place, 7), false);
        }
    }

    private static void changeAtLostPlace() {
        for (int which = 0; which <= 1; which++) {
            ThresholdDiff x = Check.texts("123", "123");
            x.drop(which);
            Check.due("change at a dropped place", x.change(which, 2, 7), false);
            Check.due("change at the place before it", x.change(which, 1, 7), true);
            Check.due("append there again", x.append(which, 5), 2);
            Check.due("change there again", x.change(which, 2, 6), true);
            Check.due("drop", x.drop(which), 6);
        }
        ThresholdDiff y = Check.texts("1234", "5");
        y.swap();
        Check.due("change at a place that went to the new text", y.change(0, 1, 7), false);
        Check.due("change at that place of the new text", y.change(1, 3, 7), true);
        Check.dueTexts("swapped", y, "5", "1237");
    }

    private static void changeToNoSymbol() {
        for (int s : Check.outside(7)) {
            Check.unchanged("change(0, 0, " + s + ")", "12", "345", x -> x.change(0, 0, s), false);
            Check.unchanged("change(1, 2, " + s + ")", "12", "345", x -> x.change(1, 2, s), false);
        }
    }

    private static void swapEmpty() {
        ThresholdDiff x = new ThresholdDiff();
        x.swap();
        Check.dueTexts("both empty", x, "", "");
        Check.due("append to the old one", x.append(0, 1), 0);
        Check.dueTexts("then", x, "1", "");
        x.swap();
        Check.dueTexts("one empty", x, "", "1");
        Check.due("drop from the empty one", x.drop(0), NONE);
        Check.due("drop from the other one", x.drop(1), 1);
    }

    private static void swapFull() {
        ThresholdDiff x = Check.texts(SIXTEEN, OTHER_SIXTEEN);
        x.swap();
        Check.dueTexts("once", x, OTHER_SIXTEEN, SIXTEEN);
        Check.due("append to the old one", x.append(0, 1), FULL);
        Check.due("append to the new one", x.append(1, 1), FULL);
        x.swap();
        Check.dueTexts("twice", x, SIXTEEN, OTHER_SIXTEEN);
    }

    private static void swapEmptyAndFull() {
        ThresholdDiff x = Check.texts(SIXTEEN, "");
        x.swap();
        Check.dueTexts("full to new", x, "", SIXTEEN);
        Check.due("append to the full one", x.append(1, 1), FULL);
        Check.due("drop from the empty one", x.drop(0), NONE);
        Check.due("append to the empty one", x.append(0, 6), 0);
        x.swap();
        Check.dueTexts("full to old", x, SIXTEEN, "6");
        Check.due("append to the full one", x.append(0, 1), FULL);
        Check.due("append to the other one", x.append(1, 1), 1);
    }

    private static void lengthFromEmptyToFull() {
        ThresholdDiff x = new ThresholdDiff();
        for (int k = 0; k <= 16; k++) {
            Check.due("length(0)", x.length(0), k);
            Check.due("length(1)", x.length(1), 0);
            x.append(0, 0);
        }
        for (int k = 0; k <= 16; k++) {
            Check.due("length(0)", x.length(0), 16);
            Check.due("length(1)", x.length(1), k);
            x.append(1, 0);
        }
        Check.due("length(1) after FULL", x.length(1), 16);
    }

    private static void lengthOfNoText() {
        for (int which : Check.outside(1)) {
            Check.unchanged("length(" + which + ")", "12", "345", x -> x.length(which), NONE);
            Check.unchanged("length(" + which + ") when empty", "", "", x -> x.length(which), NONE);
        }
    }

    private static void noneBeforeFull() {
        for (int s : Check.outside(7)) {
            String call = ", " + s + ") when full";
            Check.unchanged("append(0" + call, SIXTEEN, "1", x -> x.append(0, s), NONE);
            Check.unchanged("append(1" + call, "1", SIXTEEN, x -> x.append(1, s), NONE);
        }
        for (int which : Check.outside(1)) {
            String call = "append(" + which + ", 0) when both are full";
            Check.unchanged(call, SIXTEEN, OTHER_SIXTEEN, x -> x.append(which, 0), NONE);
        }
    }

    private static void fullChangesNothing() {
        for (int s = 0; s <= 7; s++) {
            int symbol = s;
            Check.unchanged("append(0, " + s + ")", SIXTEEN, "1", x -> x.append(0, symbol), FULL);
            Check.unchanged("append(1, " + s + ")", "1", SIXTEEN, x -> x.append(1, symbol), FULL);
            Check.unchanged("append(0, " + s + ") beside empty", SIXTEEN, "", x -> x.append(0, symbol), FULL);
            Check.unchanged("append(0, " + s + "), both full", SIXTEEN, OTHER_SIXTEEN, x -> x.append(0, symbol), FULL);
            Check.unchanged("append(1, " + s + "), both full", SIXTEEN, OTHER_SIXTEEN, x -> x.append(1, symbol), FULL);
        }
        ThresholdDiff x = Check.texts(SIXTEEN, "1");
        x.append(0, 3);
        Check.due("drop after FULL", x.drop(0), 7);
        Check.due("room again", x.append(0, 2), 15);
        Check.due("full again", x.append(0, 2), FULL);
    }
}
