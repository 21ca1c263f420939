import java.math.BigInteger;

/**
 * One test for each sentence of the document that names a boundary case: too small, too large,
 * empty, full, a wrap-around, a refused call. Each is listed with the promise's number and the
 * document's words, behind them in brackets which case of the sentence it is; the answers are
 * worked out by hand from these words. A sentence of the section "Description" is listed with the
 * promises that rest on it.
 */
public final class BoundaryTest {
    private static final int LEAST = Integer.MIN_VALUE;
    private static final int MOST = Integer.MAX_VALUE;
    private static final int PROMISES = 28;
    private static final String UNDOABLE = "Each successful call of a method whose description says \"undoable\" saves";
    private static final String ORDER = "Several checks in one method are made in the order in which they are listed.";

    private static final boolean[] TESTED = new boolean[PROMISES + 1];
    private static int wrong = 0;
    private static String place = "";

    private interface Call {
        int on(CosetCoder x);
    }

    // ---- how a test is written

    private static void sentence(int promise, String words, Runnable test) {
        TESTED[promise] = true;
        place = "promise " + promise + " (\"" + words + "\")";
        try {
            test.run();
        } catch (RuntimeException e) {
            wrong++;
            System.out.println(place + ": a call threw " + e);
        }
    }

    private static void notUndoable(int promise, String name, Call call) {
        sentence(promise, UNDOABLE + " [another method]", () -> dueQuiet(name, call));
    }

    private static void due(String call, long got, long want) {
        if (got != want) {
            wrong++;
            System.out.println(place + ": " + call + " answered " + got + ", due is " + want);
        }
    }

    /** A new coder with a word length and rows; a negative number -r stands for the check row r. */
    private static CosetCoder coder(int length, int... rows) {
        CosetCoder x = new CosetCoder();
        x.setLength(length);
        for (int row : rows) {
            x.addRow(Math.abs(row), row < 0 ? 1 : 0);
        }
        return x;
    }

    private static CosetCoder sixMessageRows() {
        return coder(6, 1, 2, 4, 8, 16, 32);
    }

    private static CosetCoder sixCheckRows() {
        return coder(6, -1, -2, -4, -8, -16, -32);
    }

    /** Six rows, four saved states, a word that is ambiguous (1) and a message without words (63). */
    private static CosetCoder busy() {
        return coder(2, -3, 1, 1, 1, 1, 1);
    }

    /** The rows are these and no more; the look behind the last one is counted as one error -2. */
    private static void dueRows(CosetCoder x, int... rows) {
        for (int i = 0; i < rows.length; i++) {
            due("row(" + i + ")", x.row(i), Math.abs(rows[i]));
            due("isCheck(" + i + ")", x.isCheck(i), rows[i] < 0 ? 1 : 0);
        }
        due("row(" + rows.length + "), behind the last", x.row(rows.length), -2);
    }

    /** The look behind the greatest word is counted as one error -2. */
    private static void dueLength(CosetCoder x, int length) {
        int greatest = (1 << length) - 1;
        due("distance(" + greatest + ") is an answer", x.distance(greatest) >= 0 ? 1 : 0, 1);
        due("distance(" + (greatest + 1) + ")", x.distance(greatest + 1), -2);
    }

    /** The counters of the codes -2, -3, -4, -5, -6. */
    private static void dueErrors(CosetCoder x, int... counts) {
        for (int i = 0; i < counts.length; i++) {
            due("errorCount(" + (-2 - i) + ")", x.errorCount(-2 - i), counts[i]);
        }
    }

    /** Two coders have the same counters, the same state, and the same saved states. */
    private static void dueAlike(String after, CosetCoder x, CosetCoder y) {
        for (int i = 0; i < 6; i++) {
            due(after + ": digest() after " + i + " undos", x.digest(), y.digest());
            due(after + ": undo()", x.undo(), y.undo());
        }
    }

    /** The call answers the code on a busy coder, counts it once, and changes nothing else. */
    private static void dueRefused(String name, int code, Call call) {
        CosetCoder x = busy();
        due(name, call.on(x), code);
        for (int other = -6; other <= -2; other++) {
            due(name + ": errorCount(" + other + ")", x.errorCount(other), other == code ? 1 : 0);
        }
        dueRows(x, -3, 1, 1, 1, 1, 1);
        dueLength(x, 2);
        due(name + ": undo()", x.undo(), 3);
        dueRows(x, -3, 1, 1, 1, 1);
        due(name + ": undo()", x.undo(), 2);
        due(name + ": undo()", x.undo(), 1);
        due(name + ": undo()", x.undo(), 0);
        dueRows(x, -3, 1);
        due(name + ": undo()", x.undo(), -6);
    }

    /** The call gives an answer that is no error, counts nothing, and neither saves nor changes. */
    private static void dueQuiet(String name, Call call) {
        CosetCoder x = busy();
        due(name + " is no error", call.on(x) >= -1 ? 1 : 0, 1);
        dueErrors(x, 0, 0, 0, 0, 0);
        dueAlike(name, x, busy());
        CosetCoder fresh = new CosetCoder();
        call.on(fresh);
        due(name + ": undo() of a new object", fresh.undo(), -6);
    }

    /** On a new coder with the rows, the call saves the state from before it. */
    private static void dueUndoable(String name, Call call, int... rows) {
        CosetCoder x = new CosetCoder();
        for (int row : rows) {
            x.addRow(Math.abs(row), row < 0 ? 1 : 0);
        }
        due(name + " is no error", call.on(x) >= 0 ? 1 : 0, 1);
        due(name + ": undo()", x.undo(), Math.min(rows.length, 3));
        dueRows(x, rows);
        dueLength(x, 6);
    }

    private static BigInteger exactHash(long... values) {
        BigInteger h = BigInteger.valueOf(2687);
        for (long v : values) {
            h = h.multiply(BigInteger.valueOf(31)).add(BigInteger.valueOf(v));
        }
        return h;
    }

    private static long hash(long... values) {
        return exactHash(values).longValue();
    }

    // ---- promise 1

    private static void newObjectHasLengthSix() {
        CosetCoder x = new CosetCoder();
        due("message(63)", x.message(63), 0);
        due("message(64)", x.message(64), -2);
        due("codewords()", x.codewords(), 64);
        due("setLength(1)", x.setLength(1), 6);
    }

    private static void newObjectHasNoRows() {
        CosetCoder x = new CosetCoder();
        due("row(0)", x.row(0), -2);
        due("isCheck(0)", x.isCheck(0), -2);
        due("removeRow(0)", x.removeRow(0), -2);
        due("rank(2)", x.rank(2), 0);
        due("addRow(1, 0)", x.addRow(1, 0), 0);
    }

    private static void newObjectHasNothingSaved() {
        due("undo()", new CosetCoder().undo(), -6);
    }

    private static void newObjectHasCountedNoError() {
        dueErrors(new CosetCoder(), 0, 0, 0, 0, 0);
    }

    private static void newObjectIsNewAfterOthersWereUsed() {
        CosetCoder other = busy();
        other.decode(1);
        other.addRow(1, 0);
        CosetCoder x = new CosetCoder();
        due("undo()", x.undo(), -6);
        dueErrors(x, 0, 0, 0, 0, 1);
        dueRows(x);
        dueLength(x, 6);
        dueErrors(other, 0, 0, 1, 1, 0);
        dueRows(other, -3, 1, 1, 1, 1, 1);
        due("undo() of the other", other.undo(), 3);
    }

    private static void theLastOf512CallsIsRight() {
        CosetCoder refused = new CosetCoder();
        for (int i = 0; i < 511; i++) {
            due("undo()", refused.undo(), -6);
        }
        due("errorCount(-6) as call 512", refused.errorCount(-6), 511);
        CosetCoder saving = new CosetCoder();
        for (int i = 0; i < 511; i++) {
            due("setLength()", saving.setLength(i % 8 + 1), i == 0 ? 6 : (i - 1) % 8 + 1);
        }
        due("undo() as call 512", saving.undo(), 3);
        CosetCoder changing = new CosetCoder();
        for (int i = 0; i < 255; i++) {
            due("addRow(63, 0)", changing.addRow(63, 0), 0);
            due("removeRow(0)", changing.removeRow(0), 0);
        }
        due("addRow(63, 0) as call 511", changing.addRow(63, 0), 0);
        due("threshold() as call 512", changing.threshold(), 5);
    }

    private static void promise1() {
        sentence(1, "Creates a coder with word length 6", BoundaryTest::newObjectHasLengthSix);
        sentence(1, "and no rows", BoundaryTest::newObjectHasNoRows);
        sentence(1, "`NOTHING_SAVED = -6`: There is no saved state.", BoundaryTest::newObjectHasNothingSaved);
        sentence(1, "how often an error code has been returned", BoundaryTest::newObjectHasCountedNoError);
        sentence(1, "Creates a coder [others were made before]", BoundaryTest::newObjectIsNewAfterOthersWereUsed);
        sentence(1, "An object is used for at most 512 calls after it has been made",
            BoundaryTest::theLastOf512CallsIsRight);
    }

    // ---- promise 2

    private static void lengthsOneToEightAreTaken() {
        for (int n = 1; n <= 8; n++) {
            CosetCoder x = new CosetCoder();
            due("setLength(" + n + ")", x.setLength(n), 6);
            dueLength(x, n);
            due("codewords()", x.codewords(), 1 << n);
        }
    }

    private static void lengthsTooSmallAreRefused() {
        for (int n : new int[] {0, -1, -8, LEAST, LEAST + 1, LEAST + 6}) {
            dueRefused("setLength(" + n + ")", -2, x -> x.setLength(n));
        }
    }

    private static void lengthsTooLargeAreRefused() {
        for (int n : new int[] {9, 10, 32, 33, 38, 256 + 6, MOST}) {
            dueRefused("setLength(" + n + ")", -2, x -> x.setLength(n));
        }
    }

    private static void setLengthEmptiesAFullList() {
        CosetCoder x = sixMessageRows();
        due("setLength(8)", x.setLength(8), 6);
        dueRows(x);
        due("rank(2)", x.rank(2), 0);
        for (int i = 0; i < 6; i++) {
            due("addRow(255, 1)", x.addRow(255, 1), i);
        }
        due("addRow(255, 1) as the seventh", x.addRow(255, 1), -4);
    }

    private static void setLengthEmptiesTheListAtTheSameLength() {
        CosetCoder x = coder(6, 63, -1);
        due("setLength(6)", x.setLength(6), 6);
        dueRows(x);
        due("undo()", x.undo(), 3);
        dueRows(x, 63, -1);
    }

    private static void setLengthAnswersThePreviousLength() {
        CosetCoder x = new CosetCoder();
        due("setLength(8)", x.setLength(8), 6);
        due("setLength(8)", x.setLength(8), 8);
        due("setLength(1)", x.setLength(1), 8);
        due("setLength(9)", x.setLength(9), -2);
        due("setLength(2)", x.setLength(2), 1);
        due("undo()", x.undo(), 3);
        due("setLength(3)", x.setLength(3), 1);
    }

    private static void setLengthIsUndoable() {
        dueUndoable("setLength(1)", x -> x.setLength(1), 63, -1);
        dueUndoable("setLength(6)", x -> x.setLength(6));
    }

    private static void promise2() {
        sentence(2, "new word length, 1 to 8", BoundaryTest::lengthsOneToEightAreTaken);
        sentence(2, "OUT_OF_RANGE if n is out of range [too small]", BoundaryTest::lengthsTooSmallAreRefused);
        sentence(2, "OUT_OF_RANGE if n is out of range [too large]", BoundaryTest::lengthsTooLargeAreRefused);
        sentence(2, "removes all rows [six]", BoundaryTest::setLengthEmptiesAFullList);
        sentence(2, "Sets the word length and removes all rows [the same length]",
            BoundaryTest::setLengthEmptiesTheListAtTheSameLength);
        sentence(2, "Returns the previous word length", BoundaryTest::setLengthAnswersThePreviousLength);
        sentence(2, "Undoable.", BoundaryTest::setLengthIsUndoable);
    }

    // ---- promise 3

    private static void theRowZeroIsRefused() {
        dueRefused("addRow(0, 0)", -2, x -> x.addRow(0, 0));
        for (int n = 1; n <= 8; n++) {
            due("addRow(0, 0) at length " + n, coder(n).addRow(0, 0), -2);
            due("addRow(0, 1) at length " + n, coder(n).addRow(0, 1), -2);
        }
    }

    private static void theLeastAndGreatestRowAreTaken() {
        for (int n = 1; n <= 8; n++) {
            int greatest = (1 << n) - 1;
            CosetCoder x = coder(n);
            due("addRow(1, 0)", x.addRow(1, 0), 0);
            due("addRow(" + greatest + ", 1)", x.addRow(greatest, 1), 1);
            dueRows(x, 1, -greatest);
        }
    }

    private static void rowsThatAreNoWordsAreRefused() {
        for (int n = 1; n <= 8; n++) {
            CosetCoder x = coder(n);
            for (int row : new int[] {1 << n, (1 << n) + 1, 512, -1, -(1 << n), LEAST, LEAST + 1, MOST}) {
                due("addRow(" + row + ", 0) at length " + n, x.addRow(row, 0), -2);
            }
            dueErrors(x, 8, 0, 0, 0, 0);
            due("undo(), of setLength alone", x.undo(), 0);
            dueRows(x);
        }
    }

    private static void checksOtherThanZeroAndOneAreRefused() {
        CosetCoder x = new CosetCoder();
        for (int check : new int[] {2, 3, -1, -2, LEAST, LEAST + 1, MOST}) {
            due("addRow(1, " + check + ")", x.addRow(1, check), -2);
        }
        dueErrors(x, 7, 0, 0, 0, 0);
        due("undo()", x.undo(), -6);
        due("addRow(1, 0)", x.addRow(1, 0), 0);
        due("addRow(1, 1)", x.addRow(1, 1), 1);
        dueRows(x, 1, -1);
    }

    private static void theRowsAreNumberedFromZeroToFive() {
        CosetCoder x = new CosetCoder();
        for (int i = 0; i < 6; i++) {
            due("addRow(" + (i + 1) + ", 0)", x.addRow(i + 1, 0), i);
        }
        dueRows(x, 1, 2, 3, 4, 5, 6);
    }

    private static void theSeventhRowIsRefused() {
        CosetCoder x = new CosetCoder();
        for (int i = 0; i < 6; i++) {
            due("addRow(63, " + i % 2 + ")", x.addRow(63, i % 2), i);
        }
        due("addRow(1, 0) as the seventh", x.addRow(1, 0), -4);
        due("addRow(1, 1) as the seventh", x.addRow(1, 1), -4);
        dueErrors(x, 0, 0, 2, 0, 0);
        dueRows(x, 63, -63, 63, -63, 63, -63);
        dueRefused("addRow(1, 0)", -4, y -> y.addRow(1, 0));
        dueRefused("addRow(3, 1)", -4, y -> y.addRow(3, 1));
    }

    private static void thereIsRoomAgainAfterARemoval() {
        CosetCoder x = sixMessageRows();
        due("addRow(3, 1)", x.addRow(3, 1), -4);
        due("removeRow(0)", x.removeRow(0), 5);
        due("addRow(3, 1)", x.addRow(3, 1), 5);
        due("addRow(3, 1)", x.addRow(3, 1), -4);
        due("undo()", x.undo(), 3);
        due("addRow(5, 1)", x.addRow(5, 1), 5);
        dueRows(x, 2, 4, 8, 16, 32, -5);
    }

    private static void wrongRowsAreOutOfRangeThoughTheListIsFull() {
        dueRefused("addRow(0, 0)", -2, x -> x.addRow(0, 0));
        dueRefused("addRow(4, 0)", -2, x -> x.addRow(4, 0));
        dueRefused("addRow(-1, 1)", -2, x -> x.addRow(-1, 1));
        dueRefused("addRow(1, 2)", -2, x -> x.addRow(1, 2));
        dueRefused("addRow(1, -1)", -2, x -> x.addRow(1, -1));
        dueRefused("addRow(0, 2)", -2, x -> x.addRow(0, 2));
    }

    private static void aRowMayStandSeveralTimes() {
        CosetCoder x = coder(1);
        for (int i = 0; i < 6; i++) {
            due("addRow(1, 0)", x.addRow(1, 0), i);
        }
        dueRows(x, 1, 1, 1, 1, 1, 1);
    }

    private static void addRowIsUndoable() {
        dueUndoable("addRow(1, 0)", x -> x.addRow(1, 0));
        dueUndoable("addRow(1, 1)", x -> x.addRow(1, 1), 63, -1, 2, -4, 5);
    }

    private static void promise3() {
        sentence(3, "a word other than 0", BoundaryTest::theRowZeroIsRefused);
        sentence(3, "A word is a number from 0 to 2^n - 1 [1 and 2^n - 1]",
            BoundaryTest::theLeastAndGreatestRowAreTaken);
        sentence(3, "OUT_OF_RANGE if an argument is out of range [row]", BoundaryTest::rowsThatAreNoWordsAreRefused);
        sentence(3, "1 for a check row, 0 for a message row [other numbers]",
            BoundaryTest::checksOtherThanZeroAndOneAreRefused);
        sentence(3, "Returns the number of the new row", BoundaryTest::theRowsAreNumberedFromZeroToFive);
        sentence(3, "FULL if there are 6 rows", BoundaryTest::theSeventhRowIsRefused);
        sentence(3, "There is a list of at most 6 rows [room again]", BoundaryTest::thereIsRoomAgainAfterARemoval);
        sentence(3, ORDER, BoundaryTest::wrongRowsAreOutOfRangeThoughTheListIsFull);
        sentence(3, "each row is a word other than 0 [the same word again]", BoundaryTest::aRowMayStandSeveralTimes);
        sentence(3, "Undoable.", BoundaryTest::addRowIsUndoable);
    }

    // ---- promise 4

    private static void rowsThatAreNotThereAreNotRemoved() {
        for (int index : new int[] {6, 7, -1, -6, LEAST, MOST}) {
            dueRefused("removeRow(" + index + ")", -2, x -> x.removeRow(index));
        }
        CosetCoder three = coder(6, 1, 2, 4);
        due("removeRow(3) of three", three.removeRow(3), -2);
        due("removeRow(5) of three", three.removeRow(5), -2);
        dueRows(three, 1, 2, 4);
    }

    private static void nothingIsRemovedFromAnEmptyList() {
        CosetCoder x = new CosetCoder();
        due("removeRow(0)", x.removeRow(0), -2);
        due("undo()", x.undo(), -6);
        CosetCoder emptied = coder(6, 1);
        due("removeRow(0)", emptied.removeRow(0), 0);
        due("removeRow(0) of the emptied list", emptied.removeRow(0), -2);
    }

    private static void theFirstMiddleAndLastRowAreRemoved() {
        CosetCoder first = coder(6, 1, -2, 3, -4, 5, -6);
        due("removeRow(0)", first.removeRow(0), 5);
        dueRows(first, -2, 3, -4, 5, -6);
        CosetCoder middle = coder(6, 1, -2, 3, -4, 5, -6);
        due("removeRow(3)", middle.removeRow(3), 5);
        dueRows(middle, 1, -2, 3, 5, -6);
        CosetCoder last = coder(6, 1, -2, 3, -4, 5, -6);
        due("removeRow(5)", last.removeRow(5), 5);
        dueRows(last, 1, -2, 3, -4, 5);
    }

    private static void theRowsThatRemainAreCountedDownToNone() {
        CosetCoder x = sixMessageRows();
        for (int left = 5; left >= 0; left--) {
            due("removeRow(0)", x.removeRow(0), left);
        }
        dueRows(x);
        due("rank(2)", x.rank(2), 0);
        due("messages()", x.messages(), 1);
    }

    private static void removeRowIsUndoable() {
        dueUndoable("removeRow(0)", x -> x.removeRow(0), 63);
        dueUndoable("removeRow(1)", x -> x.removeRow(1), 1, -2, 3, -4, 5, -6);
    }

    private static void promise4() {
        sentence(4, "OUT_OF_RANGE if there is no such row", BoundaryTest::rowsThatAreNotThereAreNotRemoved);
        sentence(4, "OUT_OF_RANGE if there is no such row [empty]", BoundaryTest::nothingIsRemovedFromAnEmptyList);
        sentence(4, "The rows with higher numbers move down by one", BoundaryTest::theFirstMiddleAndLastRowAreRemoved);
        sentence(4, "Returns the number of rows that remain", BoundaryTest::theRowsThatRemainAreCountedDownToNone);
        sentence(4, "Undoable.", BoundaryTest::removeRowIsUndoable);
    }

    // ---- promise 5

    private static void anEmptyListHasNoDependentRows() {
        CosetCoder x = new CosetCoder();
        due("removeDependentRows()", x.removeDependentRows(), 0);
        dueRows(x);
        due("undo()", x.undo(), 0);
    }

    private static void sixIndependentRowsStay() {
        CosetCoder x = coder(6, 1, -3, 7, -15, 31, -63);
        due("rank(2)", x.rank(2), 6);
        due("removeDependentRows()", x.removeDependentRows(), 0);
        dueRows(x, 1, -3, 7, -15, 31, -63);
        due("removeDependentRows() again", x.removeDependentRows(), 0);
        dueRows(x, 1, -3, 7, -15, 31, -63);
        CosetCoder last = coder(8, 128, 64, 192 + 32, 16, 8, 255);
        due("removeDependentRows()", last.removeDependentRows(), 0);
        dueRows(last, 128, 64, 224, 16, 8, 255);
    }

    private static void aRowThatStandsTwiceGoesOnce() {
        CosetCoder x = coder(6, 5, 5);
        due("removeDependentRows()", x.removeDependentRows(), 1);
        dueRows(x, 5);
    }

    private static void theXorOfAllFiveInFrontGoes() {
        CosetCoder x = coder(6, 1, 2, 4, 8, 16, 31);
        due("removeDependentRows()", x.removeDependentRows(), 1);
        dueRows(x, 1, 2, 4, 8, 16);
    }

    private static void theFirstRowStaysForNoneIsInFrontOfIt() {
        CosetCoder x = coder(6, 63, 7, 56);
        due("removeDependentRows()", x.removeDependentRows(), 1);
        dueRows(x, 63, 7);
        CosetCoder one = coder(1, -1);
        due("removeDependentRows() of one row", one.removeDependentRows(), 0);
        dueRows(one, -1);
    }

    private static void fiveOfSixEqualRowsGo() {
        CosetCoder x = coder(1, -1, 1, -1, 1, -1, 1);
        due("removeDependentRows()", x.removeDependentRows(), 5);
        dueRows(x, -1);
    }

    private static void messageAndCheckRowsCountAlikeAsInFront() {
        CosetCoder x = coder(6, 7, -7, -56, 63, 1);
        due("removeDependentRows()", x.removeDependentRows(), 2);
        dueRows(x, 7, -56, 1);
    }

    private static void removeDependentRowsIsUndoable() {
        dueUndoable("removeDependentRows()", CosetCoder::removeDependentRows);
        dueUndoable("removeDependentRows()", CosetCoder::removeDependentRows, 1, 2);
        dueUndoable("removeDependentRows()", CosetCoder::removeDependentRows, 1, -1, 2, -3, 3);
    }

    private static void promise5() {
        sentence(5, "Removes each row that is the XOR of one or more rows in front of it [no rows]",
            BoundaryTest::anEmptyListHasNoDependentRows);
        sentence(5, "Returns the number of rows that were removed [none]", BoundaryTest::sixIndependentRowsStay);
        sentence(5, "the XOR of one or more rows in front of it in the list [one]",
            BoundaryTest::aRowThatStandsTwiceGoesOnce);
        sentence(5, "the XOR of one or more rows in front of it in the list [five]",
            BoundaryTest::theXorOfAllFiveInFrontGoes);
        sentence(5, "in front of it in the list [none in front]", BoundaryTest::theFirstRowStaysForNoneIsInFrontOfIt);
        sentence(5, "the rows that have been removed already are not in front of it any more",
            BoundaryTest::fiveOfSixEqualRowsGo);
        sentence(5, "Removes each row [of both kinds]", BoundaryTest::messageAndCheckRowsCountAlikeAsInFront);
        sentence(5, "Undoable.", BoundaryTest::removeDependentRowsIsUndoable);
    }

    // ---- promises 6 and 7

    private static void theFirstAndTheLastRowAreThere() {
        CosetCoder x = coder(8, 255, 2, 3, 4, 5, 128);
        due("row(0)", x.row(0), 255);
        due("row(5)", x.row(5), 128);
        dueErrors(x, 0, 0, 0, 0, 0);
    }

    private static void rowsThatAreNotThereAreRefused() {
        for (int index : new int[] {6, 7, -1, -6, LEAST, MOST}) {
            dueRefused("row(" + index + ")", -2, x -> x.row(index));
        }
        due("row(0) of none", new CosetCoder().row(0), -2);
        CosetCoder removed = coder(6, 1, 2);
        removed.removeRow(0);
        due("row(1) after a removal", removed.row(1), -2);
        removed.setLength(6);
        due("row(0) after setLength", removed.row(0), -2);
    }

    private static void theKindOfTheFirstAndTheLastRowIsThere() {
        CosetCoder x = coder(8, -255, 2, 3, 4, 5, -128);
        due("isCheck(0)", x.isCheck(0), 1);
        due("isCheck(4)", x.isCheck(4), 0);
        due("isCheck(5)", x.isCheck(5), 1);
        CosetCoder y = coder(8, 255, -2, -3, -4, -5, 128);
        due("isCheck(0)", y.isCheck(0), 0);
        due("isCheck(5)", y.isCheck(5), 0);
        dueErrors(x, 0, 0, 0, 0, 0);
    }

    private static void kindsOfRowsThatAreNotThereAreRefused() {
        for (int index : new int[] {6, 7, -1, -6, LEAST, MOST}) {
            dueRefused("isCheck(" + index + ")", -2, x -> x.isCheck(index));
        }
        due("isCheck(0) of none", new CosetCoder().isCheck(0), -2);
        CosetCoder removed = coder(6, -1, -2);
        removed.removeRow(0);
        due("isCheck(1) after a removal", removed.isCheck(1), -2);
        removed.setLength(6);
        due("isCheck(0) after setLength", removed.isCheck(0), -2);
    }

    private static void promises6And7() {
        sentence(6, "The rows are numbered from 0. [the first and the last]",
            BoundaryTest::theFirstAndTheLastRowAreThere);
        sentence(6, "OUT_OF_RANGE if there is no such row", BoundaryTest::rowsThatAreNotThereAreRefused);
        notUndoable(6, "row(0)", x -> x.row(0));
        sentence(7, "Returns 1 for a check row, 0 for a message row",
            BoundaryTest::theKindOfTheFirstAndTheLastRowIsThere);
        sentence(7, "OUT_OF_RANGE if there is no such row", BoundaryTest::kindsOfRowsThatAreNotThereAreRefused);
        notUndoable(7, "isCheck(0)", x -> x.isCheck(0));
    }

    // ---- promise 8

    private static void otherKindsAreRefused() {
        for (int kind : new int[] {3, 4, -1, -2, LEAST, MOST}) {
            dueRefused("rank(" + kind + ")", -2, x -> x.rank(kind));
        }
    }

    private static void theRankOfNoRowsIsZero() {
        CosetCoder none = new CosetCoder();
        due("rank(0) of no rows", none.rank(0), 0);
        due("rank(1) of no rows", none.rank(1), 0);
        due("rank(2) of no rows", none.rank(2), 0);
        due("rank(0) of check rows", coder(6, -1, -2).rank(0), 0);
        due("rank(1) of message rows", coder(6, 1, 2).rank(1), 0);
        dueErrors(none, 0, 0, 0, 0, 0);
    }

    private static void theRankIsAtMostTheLength() {
        due("rank(2) at length 1", coder(1, 1, -1, 1, -1, 1, -1).rank(2), 1);
        due("rank(0) at length 2", coder(2, 1, 2, 3, 1, 2, 3).rank(0), 2);
        due("rank(1) at length 3", coder(3, -7, -6, -5, -4, -3, -2).rank(1), 3);
    }

    private static void theRankIsAtMostSix() {
        due("rank(0)", coder(8, 255, 127, 63, 31, 15, 7).rank(0), 6);
        due("rank(1)", coder(8, -255, -127, -63, -31, -15, -7).rank(1), 6);
        due("rank(2)", coder(8, 255, -127, 63, -31, 15, -7).rank(2), 6);
    }

    private static void theRankOfAllRowsIsNoSum() {
        CosetCoder x = coder(6, 7, 56, -63, -7);
        due("rank(0)", x.rank(0), 2);
        due("rank(1)", x.rank(1), 2);
        due("rank(2)", x.rank(2), 2);
    }

    private static void promise8() {
        sentence(8, "OUT_OF_RANGE if kind is out of range", BoundaryTest::otherKindsAreRefused);
        sentence(8, "0 if there are no such rows", BoundaryTest::theRankOfNoRowsIsZero);
        sentence(8, "no XOR of one or more of the chosen words is 0", BoundaryTest::theRankIsAtMostTheLength);
        sentence(8, "the greatest number of them that are linearly independent", BoundaryTest::theRankIsAtMostSix);
        sentence(8, "2 for all rows", BoundaryTest::theRankOfAllRowsIsNoSum);
        notUndoable(8, "rank(2)", x -> x.rank(2));
    }

    // ---- promises 9 and 10

    /** The numbers next to the words of a length, and the farthest. */
    private static int[] noWords(int n) {
        return new int[] {1 << n, (1 << n) + 1, 1 << 9, -1, -(1 << n), LEAST, LEAST + 1, MOST};
    }

    private static void messagesOfTheLeastAndGreatestWord() {
        for (int n = 1; n <= 8; n++) {
            int greatest = (1 << n) - 1;
            CosetCoder x = coder(n, greatest, 1 << (n - 1));
            due("message(0) at length " + n, x.message(0), 0);
            due("message(" + greatest + ")", x.message(greatest), 2 + n % 2);
            dueErrors(x, 0, 0, 0, 0, 0);
        }
    }

    private static void messagesOfNoWordsAreRefused() {
        for (int n = 1; n <= 8; n++) {
            for (int word : noWords(n)) {
                due("message(" + word + ") at length " + n, coder(n, 1).message(word), -2);
            }
        }
        dueRefused("message(4)", -2, x -> x.message(4));
        dueRefused("message(-1)", -2, x -> x.message(-1));
    }

    private static void messagesWithoutMessageRowsAreZero() {
        due("message(63) of no rows", new CosetCoder().message(63), 0);
        due("message(63) of check rows", sixCheckRows().message(63), 0);
    }

    private static void messagesOfSixRowsHaveSixBits() {
        CosetCoder x = sixMessageRows();
        due("message(63)", x.message(63), 63);
        due("message(32)", x.message(32), 32);
        due("message(1)", x.message(1), 1);
    }

    private static void messageRowsAreNumberedWithoutTheCheckRows() {
        CosetCoder x = coder(6, -1, 2, -4, -8, 16, 32);
        due("message(2)", x.message(2), 1);
        due("message(16)", x.message(16), 2);
        due("message(32)", x.message(32), 4);
        due("message(13)", x.message(13), 0);
        due("removeRow(1)", x.removeRow(1), 5);
        due("message(16) after a removal", x.message(16), 1);
    }

    private static void checkValuesOfTheLeastAndGreatestWord() {
        for (int n = 1; n <= 8; n++) {
            int greatest = (1 << n) - 1;
            CosetCoder x = coder(n, -greatest, -(1 << (n - 1)));
            due("checkValue(0) at length " + n, x.checkValue(0), 0);
            due("checkValue(" + greatest + ")", x.checkValue(greatest), 2 + n % 2);
            dueErrors(x, 0, 0, 0, 0, 0);
        }
    }

    private static void checkValuesOfNoWordsAreRefused() {
        for (int n = 1; n <= 8; n++) {
            for (int word : noWords(n)) {
                due("checkValue(" + word + ") at length " + n, coder(n, -1).checkValue(word), -2);
            }
        }
        dueRefused("checkValue(4)", -2, x -> x.checkValue(4));
        dueRefused("checkValue(-1)", -2, x -> x.checkValue(-1));
    }

    private static void checkValuesWithoutCheckRowsAreZero() {
        due("checkValue(63) of no rows", new CosetCoder().checkValue(63), 0);
        due("checkValue(63) of message rows", sixMessageRows().checkValue(63), 0);
    }

    private static void checkValuesOfSixRowsHaveSixBits() {
        CosetCoder x = sixCheckRows();
        due("checkValue(63)", x.checkValue(63), 63);
        due("checkValue(32)", x.checkValue(32), 32);
        due("checkValue(1)", x.checkValue(1), 1);
    }

    private static void checkRowsAreNumberedWithoutTheMessageRows() {
        CosetCoder x = coder(6, 1, -2, 4, 8, -16, -32);
        due("checkValue(2)", x.checkValue(2), 1);
        due("checkValue(16)", x.checkValue(16), 2);
        due("checkValue(32)", x.checkValue(32), 4);
        due("checkValue(13)", x.checkValue(13), 0);
        due("removeRow(1)", x.removeRow(1), 5);
        due("checkValue(16) after a removal", x.checkValue(16), 1);
    }

    private static void eachPositionHasItsBit() {
        for (int n = 1; n <= 8; n++) {
            for (int k = 0; k < n; k++) {
                CosetCoder x = coder(n, 1 << k);
                due("message(" + (1 << k) + ") at length " + n, x.message(1 << k), 1);
                due("message(all but position " + k + ")", x.message((1 << n) - 1 - (1 << k)), 0);
            }
        }
    }

    private static void theParityOfEightOnesIsEven() {
        CosetCoder x = coder(8, 255);
        for (int ones = 0; ones <= 8; ones++) {
            due("message of " + ones + " ones", x.message((1 << ones) - 1), ones % 2);
        }
    }

    private static void promises9And10() {
        sentence(9, "A word is a number from 0 to 2^n - 1", BoundaryTest::messagesOfTheLeastAndGreatestWord);
        sentence(9, "OUT_OF_RANGE if word is out of range", BoundaryTest::messagesOfNoWordsAreRefused);
        sentence(9, "the number whose bit k is the syndrome bit of message row k [no rows]",
            BoundaryTest::messagesWithoutMessageRowsAreZero);
        sentence(9, "the number whose bit k is the syndrome bit of message row k [six rows]",
            BoundaryTest::messagesOfSixRowsHaveSixBits);
        sentence(9, "The message rows are numbered among themselves from 0",
            BoundaryTest::messageRowsAreNumberedWithoutTheCheckRows);
        sentence(9, "bit k of the number is the bit at position k (0 to n - 1)", BoundaryTest::eachPositionHasItsBit);
        sentence(9, "The parity of a number is its number of 1 bits modulo 2.",
            BoundaryTest::theParityOfEightOnesIsEven);
        notUndoable(9, "message(3)", x -> x.message(3));
        sentence(10, "A word is a number from 0 to 2^n - 1", BoundaryTest::checkValuesOfTheLeastAndGreatestWord);
        sentence(10, "OUT_OF_RANGE if word is out of range", BoundaryTest::checkValuesOfNoWordsAreRefused);
        sentence(10, "the number whose bit k is the syndrome bit of check row k [no rows]",
            BoundaryTest::checkValuesWithoutCheckRowsAreZero);
        sentence(10, "the number whose bit k is the syndrome bit of check row k [six rows]",
            BoundaryTest::checkValuesOfSixRowsHaveSixBits);
        sentence(10, "and so are the check rows", BoundaryTest::checkRowsAreNumberedWithoutTheMessageRows);
        notUndoable(10, "checkValue(3)", x -> x.checkValue(3));
    }

    // ---- promises 11 and 12

    private static void thereIsAtLeastOneCodeword() {
        due("codewords() where 0 alone is left", sixCheckRows().codewords(), 1);
        due("codewords() at length 1", coder(1, -1, -1, -1, -1, -1, -1).codewords(), 1);
        due("codewords() of dependent check rows", coder(2, -1, -2, -3, -1, -2, -3).codewords(), 1);
        due("codewords() of six check rows at length 8", coder(8, -1, -2, -4, -8, -16, -32).codewords(), 4);
    }

    private static void allWordsAreCodewordsWithoutCheckRows() {
        due("codewords() at length 1", coder(1).codewords(), 2);
        due("codewords() at length 8", coder(8).codewords(), 256);
        due("codewords() of message rows", sixMessageRows().codewords(), 64);
    }

    private static void thereIsAtLeastOneMessage() {
        due("messages() of no rows", new CosetCoder().messages(), 1);
        due("messages() of check rows", sixCheckRows().messages(), 1);
        due("messages() where 0 is the only codeword", coder(2, -1, -2, 1, 2, 3).messages(), 1);
        due("messages() of message rows that are checked", coder(8, -15, -240, 255).messages(), 1);
    }

    private static void thereAreAtMost64Messages() {
        due("messages() at length 6", sixMessageRows().messages(), 64);
        due("messages() at length 8", coder(8, 255, 127, 63, 31, 15, 7).messages(), 64);
        due("messages() at length 1", coder(1, 1, 1, 1, 1, 1, 1).messages(), 2);
    }

    private static void onlyCodewordsCountForMessages() {
        due("messages()", coder(6, 1, 2, -1).messages(), 2);
        due("messages()", coder(6, 1, 2, -3).messages(), 2);
    }

    private static void promises11And12() {
        sentence(11, "the number of codewords, at least 1", BoundaryTest::thereIsAtLeastOneCodeword);
        sentence(11, "A word with check value 0 is a codeword. [no check rows]",
            BoundaryTest::allWordsAreCodewordsWithoutCheckRows);
        notUndoable(11, "codewords()", CosetCoder::codewords);
        sentence(12, "the number of different messages of codewords, at least 1",
            BoundaryTest::thereIsAtLeastOneMessage);
        sentence(12, "the number of different messages of codewords [six rows]",
            BoundaryTest::thereAreAtMost64Messages);
        sentence(12, "the messages that some codeword has", BoundaryTest::onlyCodewordsCountForMessages);
        notUndoable(12, "messages()", CosetCoder::messages);
    }

    // ---- promise 13

    private static void theMessages0And63HaveChoices() {
        CosetCoder x = sixMessageRows();
        due("choices(0)", x.choices(0), 1);
        due("choices(63)", x.choices(63), 1);
        due("choices(63) at length 8", coder(8, 1, 2, 4, 8, 16, 32).choices(63), 4);
    }

    private static void messagesBelow0AndAbove63HaveNoChoices() {
        for (int message : new int[] {64, 65, 128, -1, -64, LEAST, MOST}) {
            dueRefused("choices(" + message + ")", -2, x -> x.choices(message));
        }
        due("choices(64) of six message rows", sixMessageRows().choices(64), -2);
    }

    private static void messagesThatNoCodewordHasAreNoErrors() {
        CosetCoder x = coder(6, 7, 56, 63);
        due("choices(1), a message of no word", x.choices(1), 0);
        due("choices(8), a bit beyond the message rows", x.choices(8), 0);
        due("choices(63)", x.choices(63), 0);
        due("choices(1) of a checked row", coder(6, -7, 7).choices(1), 0);
        dueErrors(x, 0, 0, 0, 0, 0);
    }

    private static void allCodewordsHaveTheMessage0WithoutMessageRows() {
        due("choices(0)", new CosetCoder().choices(0), 64);
        due("choices(1)", new CosetCoder().choices(1), 0);
        due("choices(0) at length 8", coder(8).choices(0), 256);
        due("choices(0) of check rows", sixCheckRows().choices(0), 1);
    }

    private static void promise13() {
        sentence(13, "`message`: 0 to 63", BoundaryTest::theMessages0And63HaveChoices);
        sentence(13, "OUT_OF_RANGE if message is out of range", BoundaryTest::messagesBelow0AndAbove63HaveNoChoices);
        sentence(13, "the number of codewords that have this message [none]",
            BoundaryTest::messagesThatNoCodewordHasAreNoErrors);
        sentence(13, "the number of codewords that have this message [all]",
            BoundaryTest::allCodewordsHaveTheMessage0WithoutMessageRows);
        notUndoable(13, "choices(0)", x -> x.choices(0));
    }

    // ---- promise 14

    private static void theMessages0And63AreEncoded() {
        CosetCoder x = sixMessageRows();
        due("encode(0, 0)", x.encode(0, 0), 0);
        due("encode(63, 0)", x.encode(63, 0), 63);
        dueErrors(x, 0, 0, 0, 0, 0);
    }

    private static void messagesBelow0AndAbove63AreNotEncoded() {
        for (int message : new int[] {64, 65, 128, -1, -64, LEAST, MOST}) {
            dueRefused("encode(" + message + ", 0)", -2, x -> x.encode(message, 0));
        }
    }

    private static void negativeIndicesAreOutOfRange() {
        for (int index : new int[] {-1, -2, LEAST, LEAST + 1}) {
            dueRefused("encode(0, " + index + ")", -2, x -> x.encode(0, index));
        }
    }

    private static void theCodewordsAscendToTheLast() {
        CosetCoder x = coder(4, 3, -8);
        int[] want = {1, 2, 5, 6, -3};
        for (int index = 0; index < want.length; index++) {
            due("encode(1, " + index + ")", x.encode(1, index), want[index]);
        }
        CosetCoder all = coder(8);
        for (int index = 0; index < 256; index++) {
            due("encode(0, " + index + ") at length 8", all.encode(0, index), index);
        }
        due("encode(0, 256) at length 8", all.encode(0, 256), -3);
    }

    private static void indicesTooLargeAreMissing() {
        dueRefused("encode(0, 1)", -3, x -> x.encode(0, 1));
        dueRefused("encode(31, 1)", -3, x -> x.encode(31, 1));
        dueRefused("encode(0, MOST)", -3, x -> x.encode(0, MOST));
    }

    private static void messagesWithoutCodewordsAreMissing() {
        dueRefused("encode(1, 0)", -3, x -> x.encode(1, 0));
        dueRefused("encode(63, 0)", -3, x -> x.encode(63, 0));
        due("encode(1, 0) of no rows", new CosetCoder().encode(1, 0), -3);
    }

    private static void outOfRangeComesBeforeMissing() {
        dueRefused("encode(63, -1)", -2, x -> x.encode(63, -1));
        dueRefused("encode(64, MOST)", -2, x -> x.encode(64, MOST));
        dueRefused("encode(-1, MOST)", -2, x -> x.encode(-1, MOST));
        dueRefused("encode(64, -1)", -2, x -> x.encode(64, -1));
    }

    private static void promise14() {
        sentence(14, "`message`: 0 to 63", BoundaryTest::theMessages0And63AreEncoded);
        sentence(14, "OUT_OF_RANGE if message is out of range", BoundaryTest::messagesBelow0AndAbove63AreNotEncoded);
        sentence(14, "or index is negative", BoundaryTest::negativeIndicesAreOutOfRange);
        sentence(14, "in ascending order, from 0", BoundaryTest::theCodewordsAscendToTheLast);
        sentence(14, "MISSING if there are not so many codewords with this message",
            BoundaryTest::indicesTooLargeAreMissing);
        sentence(14, "MISSING if there are not so many codewords with this message [none]",
            BoundaryTest::messagesWithoutCodewordsAreMissing);
        sentence(14, ORDER, BoundaryTest::outOfRangeComesBeforeMissing);
        notUndoable(14, "encode(0, 0)", x -> x.encode(0, 0));
    }

    // ---- promises 15 and 16

    private static void theLeastAndGreatestWordAreDecoded() {
        for (int n = 1; n <= 8; n++) {
            CosetCoder x = coder(n, 1 << (n - 1));
            due("decode(0) at length " + n, x.decode(0), 0);
            due("decode(" + ((1 << n) - 1) + ")", x.decode((1 << n) - 1), 1);
            dueErrors(x, 0, 0, 0, 0, 0);
        }
        due("decode(63) of six message rows", sixMessageRows().decode(63), 63);
        due("decode(63) where 0 is the only codeword", sixCheckRows().decode(63), 0);
    }

    private static void noWordsAreNotDecoded() {
        for (int n = 1; n <= 8; n++) {
            for (int word : noWords(n)) {
                due("decode(" + word + ") at length " + n, coder(n, 1).decode(word), -2);
            }
        }
        dueRefused("decode(4)", -2, x -> x.decode(4));
        dueRefused("decode(-1)", -2, x -> x.decode(-1));
    }

    private static void nearestCodewordsOfTwoMessagesAreAmbiguous() {
        dueRefused("decode(1)", -5, x -> x.decode(1));
        dueRefused("decode(2)", -5, x -> x.decode(2));
        due("decode(0)", coder(4, -3, -5, -9, 1).decode(0), 0);
        due("decode(3), half way", coder(4, -3, -5, -9, 1).decode(3), -5);
        due("decode(1), nearer to 0", coder(4, -3, -5, -9, 1).decode(1), 0);
        due("decode(7), nearer to 15", coder(4, -3, -5, -9, 1).decode(7), 1);
    }

    private static void nearestCodewordsOfOneMessageAreNotAmbiguous() {
        CosetCoder x = coder(2, -3);
        due("decode(1) between 0 and 3", x.decode(1), 0);
        CosetCoder y = coder(3, -3, 4);
        due("decode(5) between 4 and 7", y.decode(5), 1);
        dueErrors(y, 0, 0, 0, 0, 0);
    }

    private static void theMessage0MayBeAmbiguousInBothOrders() {
        CosetCoder x = coder(2, -3, 1, 2);
        due("decode(1), the messages 0 and 3", x.decode(1), -5);
        CosetCoder y = coder(3, -3, 4, 1);
        due("decode(5), the messages 1 and 3", y.decode(5), -5);
        dueErrors(y, 0, 0, 0, 1, 0);
    }

    private static void codewordsAreAtDistance0() {
        for (int n = 1; n <= 8; n++) {
            CosetCoder x = coder(n);
            due("distance(0) at length " + n, x.distance(0), 0);
            due("distance(" + ((1 << n) - 1) + ")", x.distance((1 << n) - 1), 0);
        }
    }

    private static void theGreatestDistanceIsSix() {
        due("distance(63) where 0 is the only codeword", sixCheckRows().distance(63), 6);
        due("distance(255) at length 8", coder(8, -1, -2, -4, -8, -16, -32).distance(255), 6);
        due("distance(1) at length 1", coder(1, -1).distance(1), 1);
    }

    private static void ambiguousWordsHaveADistance() {
        CosetCoder x = coder(2, -3, 1);
        due("distance(1)", x.distance(1), 1);
        dueErrors(x, 0, 0, 0, 0, 0);
    }

    private static void noWordsHaveNoDistance() {
        for (int n = 1; n <= 8; n++) {
            for (int word : noWords(n)) {
                due("distance(" + word + ") at length " + n, coder(n, 1).distance(word), -2);
            }
        }
        dueRefused("distance(4)", -2, x -> x.distance(4));
        dueRefused("distance(-1)", -2, x -> x.distance(-1));
    }

    private static void promises15And16() {
        sentence(15, "A word is a number from 0 to 2^n - 1", BoundaryTest::theLeastAndGreatestWordAreDecoded);
        sentence(15, "OUT_OF_RANGE if word is out of range", BoundaryTest::noWordsAreNotDecoded);
        sentence(15, "AMBIGUOUS if the nearest codewords have different messages",
            BoundaryTest::nearestCodewordsOfTwoMessagesAreAmbiguous);
        sentence(15, "If they all have the same message, the result is that message",
            BoundaryTest::nearestCodewordsOfOneMessageAreNotAmbiguous);
        sentence(15, "otherwise the word is ambiguous", BoundaryTest::theMessage0MayBeAmbiguousInBothOrders);
        notUndoable(15, "decode(0)", x -> x.decode(0));
        sentence(16, "the number of positions in which they differ [none]", BoundaryTest::codewordsAreAtDistance0);
        sentence(16, "the number of positions in which they differ [all]", BoundaryTest::theGreatestDistanceIsSix);
        sentence(16, "Returns the distance of a word from the nearest codewords. [ambiguous]",
            BoundaryTest::ambiguousWordsHaveADistance);
        sentence(16, "OUT_OF_RANGE if word is out of range", BoundaryTest::noWordsHaveNoDistance);
        notUndoable(16, "distance(1)", x -> x.distance(1));
    }

    // ---- promise 17

    private static void weaknessIsNoneWhereThereIsOneMessage() {
        CosetCoder x = new CosetCoder();
        due("weakness() of no rows", x.weakness(), -1);
        dueErrors(x, 0, 0, 0, 0, 0);
        due("weakness() of check rows", coder(6, -1, -3).weakness(), -1);
        due("weakness() where 0 is the only codeword", coder(2, -1, -2, 1, 2).weakness(), -1);
        due("weakness() of a checked row", coder(8, -255, 255).weakness(), -1);
    }

    private static void weaknessIsAtLeastOne() {
        due("weakness() at length 1", coder(1, 1).weakness(), 1);
        due("weakness() of six message rows", sixMessageRows().weakness(), 1);
        due("weakness() of the last position", coder(8, 128).weakness(), 1);
    }

    private static void anOddDistanceLeadsToAWrongMessage() {
        due("weakness() of three alike", coder(3, -3, -6, 1).weakness(), 2);
        due("weakness() of five alike", coder(5, -3, -6, -12, -24, 1).weakness(), 3);
    }

    private static void anEvenDistanceLeadsToAnAmbiguity() {
        CosetCoder x = coder(2, -3, 1);
        due("weakness() of two alike", x.weakness(), 1);
        dueErrors(x, 0, 0, 0, 0, 0);
        due("weakness() of four alike", coder(4, -3, -6, -12, 1).weakness(), 2);
        due("weakness() of six alike", coder(6, -3, -6, -12, -24, -48, 1).weakness(), 3);
    }

    private static void codewordsOfTheSameMessageAreNoDanger() {
        due("weakness(), 3 has the message 0", coder(5, -3, -12, -24, 16).weakness(), 2);
        due("weakness(), position 0 is free", coder(7, -6, -12, -24, -48, -96, 64).weakness(), 3);
    }

    private static void promise17() {
        sentence(17, "NONE if there is none", BoundaryTest::weaknessIsNoneWhereThereIsOneMessage);
        sentence(17, "the least distance d of a codeword x and a word y [1]", BoundaryTest::weaknessIsAtLeastOne);
        sentence(17, "that can lead to a wrong message", BoundaryTest::anOddDistanceLeadsToAWrongMessage);
        sentence(17, "or an ambiguity", BoundaryTest::anEvenDistanceLeadsToAnAmbiguity);
        sentence(17, "decoding y does not give the message of x", BoundaryTest::codewordsOfTheSameMessageAreNoDanger);
        notUndoable(17, "weakness()", CosetCoder::weakness);
    }

    // ---- promise 18

    private static void theEmptySetLeaksNothing() {
        due("leakage(0) of no rows", new CosetCoder().leakage(0), 0);
        due("leakage(0)", sixMessageRows().leakage(0), 0);
        due("leakage(0) of a row twice", coder(1, 1, 1).leakage(0), 0);
        due("leakage(0) of a checked row", coder(6, -7, 7).leakage(0), 0);
    }

    private static void theSetOfAllPositionsLeaksAll() {
        for (int n = 1; n <= 8; n++) {
            CosetCoder x = coder(n, (1 << n) - 1);
            due("leakage of all at length " + n, x.leakage((1 << n) - 1), 1);
            due("leakage of all but position 0", x.leakage((1 << n) - 2), 0);
            dueErrors(x, 0, 0, 0, 0, 0);
        }
        due("leakage(63)", sixMessageRows().leakage(63), 6);
        due("leakage(255)", coder(8, 255, 127, 63, 31, 15, 7).leakage(255), 6);
        due("leakage(63) of check rows", sixCheckRows().leakage(63), 0);
        due("leakage(63) of no rows", new CosetCoder().leakage(63), 0);
    }

    private static void lostChecksAreTakenOff() {
        due("leakage(63) of a checked row", coder(6, -7, -56, 63).leakage(63), 0);
        due("leakage(63)", coder(6, -7, 56, 63).leakage(63), 1);
        due("leakage(56), which betrays both", coder(6, -7, 56, 63).leakage(56), 1);
        due("leakage(7), which betrays none", coder(6, -7, 56, 63).leakage(7), 0);
    }

    private static void noSetsHaveNoLeakage() {
        for (int n = 1; n <= 8; n++) {
            for (int set : noWords(n)) {
                due("leakage(" + set + ") at length " + n, coder(n, 1).leakage(set), -2);
            }
        }
        dueRefused("leakage(4)", -2, x -> x.leakage(4));
        dueRefused("leakage(-1)", -2, x -> x.leakage(-1));
    }

    private static void onlyThePositionOfTheRowLeaks() {
        for (int n = 1; n <= 8; n++) {
            for (int k = 0; k < n; k++) {
                CosetCoder x = coder(n, 1 << k);
                due("leakage(" + (1 << k) + ") at length " + n, x.leakage(1 << k), 1);
                due("leakage(all but position " + k + ")", x.leakage((1 << n) - 1 - (1 << k)), 0);
            }
        }
    }

    private static void promise18() {
        sentence(18, "Returns the leakage of a set of positions. [empty]", BoundaryTest::theEmptySetLeaksNothing);
        sentence(18, "Returns the leakage of a set of positions. [all]", BoundaryTest::theSetOfAllPositionsLeaksAll);
        sentence(18, "lost(all rows) minus lost(the check rows)", BoundaryTest::lostChecksAreTakenOff);
        sentence(18, "OUT_OF_RANGE if set is out of range", BoundaryTest::noSetsHaveNoLeakage);
        sentence(18, "A set of positions is written as a bit set in the same way.",
            BoundaryTest::onlyThePositionOfTheRowLeaks);
        notUndoable(18, "leakage(1)", x -> x.leakage(1));
    }

    // ---- promises 19 and 20

    private static void theWorstLeakageOfSizes0AndN() {
        for (int n = 1; n <= 8; n++) {
            CosetCoder x = coder(n, (1 << n) - 1);
            due("worstLeakage(0) at length " + n, x.worstLeakage(0), 0);
            due("worstLeakage(" + (n - 1) + ")", x.worstLeakage(n - 1), 0);
            due("worstLeakage(" + n + ")", x.worstLeakage(n), 1);
            dueErrors(x, 0, 0, 0, 0, 0);
        }
        due("worstLeakage(6)", sixMessageRows().worstLeakage(6), 6);
        due("worstLeakage(6) of no rows", new CosetCoder().worstLeakage(6), 0);
    }

    private static void theWorstOfAllSetsIsTaken() {
        due("worstLeakage(1), the last position", coder(8, 128).worstLeakage(1), 1);
        due("worstLeakage(1), the first position", coder(8, 1).worstLeakage(1), 1);
        due("worstLeakage(2), not a set of another size", coder(8, 7).worstLeakage(2), 0);
    }

    private static void sizesOutOfRangeHaveNoWorstLeakage() {
        for (int n = 1; n <= 8; n++) {
            for (int size : new int[] {n + 1, n + 2, 32, 33, -1, -n, LEAST, MOST}) {
                due("worstLeakage(" + size + ") at length " + n, coder(n, 1).worstLeakage(size), -2);
            }
        }
        dueRefused("worstLeakage(3)", -2, x -> x.worstLeakage(3));
        dueRefused("worstLeakage(-1)", -2, x -> x.worstLeakage(-1));
    }

    private static void theWorstSetsOfSizes0AndN() {
        for (int n = 1; n <= 8; n++) {
            CosetCoder x = coder(n, (1 << n) - 1);
            due("worstSet(0) at length " + n, x.worstSet(0), 0);
            due("worstSet(" + (n - 1) + ")", x.worstSet(n - 1), (1 << (n - 1)) - 1);
            due("worstSet(" + n + ")", x.worstSet(n), (1 << n) - 1);
            dueErrors(x, 0, 0, 0, 0, 0);
        }
    }

    private static void theLeastOfEquallyBadSetsIsTaken() {
        due("worstSet(1), two positions leak", coder(8, 64, 32).worstSet(1), 32);
        due("worstSet(3) where nothing leaks", new CosetCoder().worstSet(3), 7);
        due("worstSet(3) where no three leak", coder(8, 255).worstSet(3), 7);
        due("worstSet(2)", coder(8, 192, 160).worstSet(2), 96);
        due("worstSet(1) where all six bits stay hidden", coder(7, 65, 66, 68, 72, 80, 96).worstSet(1), 1);
    }

    private static void theGreatestNumberMayBeTheOnlyWorstSet() {
        due("worstSet(1), the last position", coder(8, 128).worstSet(1), 128);
        due("worstSet(2), the last two", coder(8, 192).worstSet(2), 192);
        due("worstSet(7), all but position 0", coder(8, 254).worstSet(7), 254);
    }

    private static void sizesOutOfRangeHaveNoWorstSet() {
        for (int n = 1; n <= 8; n++) {
            for (int size : new int[] {n + 1, n + 2, 32, 33, -1, -n, LEAST, MOST}) {
                due("worstSet(" + size + ") at length " + n, coder(n, 1).worstSet(size), -2);
            }
        }
        dueRefused("worstSet(3)", -2, x -> x.worstSet(3));
        dueRefused("worstSet(-1)", -2, x -> x.worstSet(-1));
    }

    private static void promises19And20() {
        sentence(19, "`size`: 0 to n", BoundaryTest::theWorstLeakageOfSizes0AndN);
        sentence(19, "Returns the greatest leakage of all sets of a size. [the last and the first set]",
            BoundaryTest::theWorstOfAllSetsIsTaken);
        sentence(19, "OUT_OF_RANGE if size is out of range", BoundaryTest::sizesOutOfRangeHaveNoWorstLeakage);
        notUndoable(19, "worstLeakage(1)", x -> x.worstLeakage(1));
        sentence(20, "`size`: 0 to n", BoundaryTest::theWorstSetsOfSizes0AndN);
        sentence(20, "Returns the least number that is such a set", BoundaryTest::theLeastOfEquallyBadSetsIsTaken);
        sentence(20, "that has the greatest leakage of all sets of its size [the last set alone]",
            BoundaryTest::theGreatestNumberMayBeTheOnlyWorstSet);
        sentence(20, "OUT_OF_RANGE if size is out of range", BoundaryTest::sizesOutOfRangeHaveNoWorstSet);
        notUndoable(20, "worstSet(1)", x -> x.worstSet(1));
    }

    // ---- promise 21

    private static void theThresholdIsNWhereNothingLeaks() {
        for (int n = 1; n <= 8; n++) {
            due("threshold() of no rows at length " + n, coder(n).threshold(), n);
        }
        due("threshold() of check rows", sixCheckRows().threshold(), 6);
        due("threshold() of a checked row", coder(8, -255, 255).threshold(), 8);
    }

    private static void theThresholdIs0WhereOnePositionLeaks() {
        due("threshold() at length 1", coder(1, 1).threshold(), 0);
        due("threshold(), the last position", coder(8, 255, 128).threshold(), 0);
        due("threshold(), betrayed by a check row", coder(8, -129, 1).threshold(), 0);
    }

    private static void theThresholdIsOneBelowTheLeastSizeThatLeaks() {
        for (int n = 1; n <= 8; n++) {
            due("threshold() of all positions at length " + n, coder(n, (1 << n) - 1).threshold(), n - 1);
        }
        due("threshold(), the shorter row", coder(8, 255, 224).threshold(), 2);
    }

    private static void promise21() {
        sentence(21, "the greatest size t, 0 to n [n]", BoundaryTest::theThresholdIsNWhereNothingLeaks);
        sentence(21, "the greatest size t, 0 to n [0]", BoundaryTest::theThresholdIs0WhereOnePositionLeaks);
        sentence(21, "all sets with at most t positions have leakage 0",
            BoundaryTest::theThresholdIsOneBelowTheLeastSizeThatLeaks);
        notUndoable(21, "threshold()", CosetCoder::threshold);
    }

    // ---- promise 22

    private static void leastSizesOf1And6Bits() {
        CosetCoder x = sixMessageRows();
        due("leastSize(1)", x.leastSize(1), 1);
        due("leastSize(6)", x.leastSize(6), 6);
        due("leastSize(6), all eight positions", coder(8, 1, 2, 4, 8, 16, 224).leastSize(6), 8);
        due("leastSize(1), all eight positions", coder(8, 255).leastSize(1), 8);
        dueErrors(x, 0, 0, 0, 0, 0);
    }

    private static void bitsOutOfRangeHaveNoLeastSize() {
        for (int bits : new int[] {0, 7, 8, -1, -6, LEAST, MOST}) {
            dueRefused("leastSize(" + bits + ")", -2, x -> x.leastSize(bits));
        }
        due("leastSize(7) of six message rows", sixMessageRows().leastSize(7), -2);
        due("leastSize(0) of no rows", new CosetCoder().leastSize(0), -2);
    }

    private static void leastSizeIsNoneWhereNoSetLeaksSoMuch() {
        CosetCoder x = new CosetCoder();
        due("leastSize(1) of no rows", x.leastSize(1), -1);
        due("leastSize(6) of no rows", x.leastSize(6), -1);
        due("leastSize(6), more bits than positions", coder(1, 1).leastSize(6), -1);
        dueErrors(x, 0, 0, 0, 0, 0);
        due("leastSize(6) of five message rows", coder(8, 1, 2, 4, 8, 16, -32).leastSize(6), -1);
        due("leastSize(5) of five message rows", coder(8, 1, 2, 4, 8, 16, -32).leastSize(5), 5);
        due("leastSize(6) of dependent rows", coder(8, 1, 2, 4, 8, 16, 31).leastSize(6), -1);
        due("leastSize(1) of a checked row", coder(6, -63, 63).leastSize(1), -1);
    }

    private static void promise22() {
        sentence(22, "`bits`: 1 to 6", BoundaryTest::leastSizesOf1And6Bits);
        sentence(22, "OUT_OF_RANGE if bits is out of range", BoundaryTest::bitsOutOfRangeHaveNoLeastSize);
        sentence(22, "NONE if there is no such set", BoundaryTest::leastSizeIsNoneWhereNoSetLeaksSoMuch);
        notUndoable(22, "leastSize(1)", x -> x.leastSize(1));
    }

    // ---- promise 23

    private static void theEmptyObservationLeavesAllMessages() {
        due("possibleMessages(0, 0)", sixMessageRows().possibleMessages(0, 0), 64);
        due("possibleMessages(0, 0) of no rows", new CosetCoder().possibleMessages(0, 0), 1);
        due("possibleMessages(0, 0) of dependent rows", coder(6, 7, 56, 63).possibleMessages(0, 0), 4);
    }

    private static void theFullObservationLeavesOneMessage() {
        for (int n = 1; n <= 8; n++) {
            int all = (1 << n) - 1;
            CosetCoder x = coder(n, all, 1);
            due("possibleMessages(all, all) at length " + n, x.possibleMessages(all, all), 1);
            due("possibleMessages(all, 0)", x.possibleMessages(all, 0), 1);
            dueErrors(x, 0, 0, 0, 0, 0);
        }
    }

    private static void theLeastAndGreatestMessagesAreCountedApart() {
        CosetCoder x = sixMessageRows();
        due("possibleMessages(31, 0), the messages 0 and 32", x.possibleMessages(31, 0), 2);
        due("possibleMessages(31, 31), the messages 31 and 63", x.possibleMessages(31, 31), 2);
        due("possibleMessages(63, 63), the message 63", x.possibleMessages(63, 63), 1);
    }

    private static void noMessageIsPossibleIfNoCodewordFits() {
        CosetCoder x = coder(3, 1, -7);
        due("possibleMessages(7, 1)", x.possibleMessages(7, 1), 0);
        due("possibleMessages(7, 7)", x.possibleMessages(7, 7), 0);
        due("possibleMessages(1, 1) where 0 is the only codeword", sixCheckRows().possibleMessages(1, 1), 0);
        dueErrors(x, 0, 0, 0, 0, 0);
    }

    private static void noSetsHaveNoPossibleMessages() {
        for (int n = 1; n <= 8; n++) {
            for (int set : noWords(n)) {
                due("possibleMessages(" + set + ", 0) at length " + n, coder(n, 1).possibleMessages(set, 0), -2);
                due("possibleMessages(" + set + ", same)", coder(n, 1).possibleMessages(set, set), -2);
            }
        }
        dueRefused("possibleMessages(4, 0)", -2, x -> x.possibleMessages(4, 0));
        dueRefused("possibleMessages(-1, 0)", -2, x -> x.possibleMessages(-1, 0));
    }

    private static void bitsOutOfRangeHaveNoPossibleMessages() {
        for (int n = 1; n <= 8; n++) {
            for (int bits : noWords(n)) {
                int all = (1 << n) - 1;
                due("possibleMessages(all, " + bits + ") at length " + n,
                    coder(n, 1).possibleMessages(all, bits), -2);
            }
        }
        dueRefused("possibleMessages(3, 4)", -2, x -> x.possibleMessages(3, 4));
        dueRefused("possibleMessages(3, -1)", -2, x -> x.possibleMessages(3, -1));
    }

    private static void bitsOutsideTheSetAreRefused() {
        dueRefused("possibleMessages(0, 1)", -2, x -> x.possibleMessages(0, 1));
        dueRefused("possibleMessages(1, 2)", -2, x -> x.possibleMessages(1, 2));
        dueRefused("possibleMessages(2, 1)", -2, x -> x.possibleMessages(2, 1));
        dueRefused("possibleMessages(1, 3)", -2, x -> x.possibleMessages(1, 3));
        CosetCoder x = coder(8);
        due("possibleMessages(127, 255)", x.possibleMessages(127, 255), -2);
        due("possibleMessages(255, 255)", x.possibleMessages(255, 255), 1);
        due("possibleMessages(170, 170)", x.possibleMessages(170, 170), 1);
        due("possibleMessages(170, 85)", x.possibleMessages(170, 85), -2);
    }

    private static void promise23() {
        sentence(23, "Counts the possible messages for an observation. [nothing read]",
            BoundaryTest::theEmptyObservationLeavesAllMessages);
        sentence(23, "Counts the possible messages for an observation. [all read]",
            BoundaryTest::theFullObservationLeavesOneMessage);
        sentence(23, "Returns the number of possible messages [of six bits]",
            BoundaryTest::theLeastAndGreatestMessagesAreCountedApart);
        sentence(23, "0 if no codeword fits", BoundaryTest::noMessageIsPossibleIfNoCodewordFits);
        sentence(23, "OUT_OF_RANGE if set or bits is out of range [set]", BoundaryTest::noSetsHaveNoPossibleMessages);
        sentence(23, "OUT_OF_RANGE if set or bits is out of range [bits]",
            BoundaryTest::bitsOutOfRangeHaveNoPossibleMessages);
        sentence(23, "or bits is not a subset of set", BoundaryTest::bitsOutsideTheSetAreRefused);
        notUndoable(23, "possibleMessages(1, 0)", x -> x.possibleMessages(1, 0));
    }

    // ---- promise 24

    private static void thePossibleMessagesAscendToTheLast() {
        CosetCoder all = sixMessageRows();
        for (int index = 0; index < 64; index++) {
            due("possibleMessage(0, 0, " + index + ")", all.possibleMessage(0, 0, index), index);
        }
        due("possibleMessage(0, 0, 64)", all.possibleMessage(0, 0, 64), -3);
        CosetCoder x = coder(3, 4, 2, 3);
        int[] want = {0, 1, 6, 7, -3};
        for (int index = 0; index < want.length; index++) {
            due("possibleMessage(1, 0, " + index + ")", x.possibleMessage(1, 0, index), want[index]);
        }
    }

    private static void possibleMessagesBeyondTheLastAreMissing() {
        dueRefused("possibleMessage(0, 0, 2)", -3, x -> x.possibleMessage(0, 0, 2));
        dueRefused("possibleMessage(3, 3, 1)", -3, x -> x.possibleMessage(3, 3, 1));
        dueRefused("possibleMessage(0, 0, 64)", -3, x -> x.possibleMessage(0, 0, 64));
        dueRefused("possibleMessage(0, 0, MOST)", -3, x -> x.possibleMessage(0, 0, MOST));
        due("possibleMessage(0, 0, 1) of no rows", new CosetCoder().possibleMessage(0, 0, 1), -3);
    }

    private static void thereIsNoPossibleMessageIfNoCodewordFits() {
        dueRefused("possibleMessage(3, 1, 0)", -3, x -> x.possibleMessage(3, 1, 0));
        dueRefused("possibleMessage(3, 2, 0)", -3, x -> x.possibleMessage(3, 2, 0));
    }

    private static void negativeIndicesOfMessagesAreOutOfRange() {
        for (int index : new int[] {-1, -2, LEAST, LEAST + 1}) {
            dueRefused("possibleMessage(0, 0, " + index + ")", -2, x -> x.possibleMessage(0, 0, index));
        }
    }

    private static void noSetsHaveNoPossibleMessage() {
        for (int n = 1; n <= 8; n++) {
            for (int set : noWords(n)) {
                due("possibleMessage(" + set + ", 0, 0) at length " + n, coder(n, 1).possibleMessage(set, 0, 0), -2);
                due("possibleMessage(" + set + ", same, 0)", coder(n, 1).possibleMessage(set, set, 0), -2);
            }
        }
        dueRefused("possibleMessage(4, 0, 0)", -2, x -> x.possibleMessage(4, 0, 0));
        dueRefused("possibleMessage(-1, 0, 0)", -2, x -> x.possibleMessage(-1, 0, 0));
    }

    private static void bitsOutOfRangeHaveNoPossibleMessage() {
        for (int n = 1; n <= 8; n++) {
            for (int bits : noWords(n)) {
                int all = (1 << n) - 1;
                due("possibleMessage(all, " + bits + ", 0) at length " + n,
                    coder(n, 1).possibleMessage(all, bits, 0), -2);
            }
        }
        dueRefused("possibleMessage(3, 4, 0)", -2, x -> x.possibleMessage(3, 4, 0));
        dueRefused("possibleMessage(3, -1, 0)", -2, x -> x.possibleMessage(3, -1, 0));
    }

    private static void bitsOutsideTheSetHaveNoPossibleMessage() {
        dueRefused("possibleMessage(0, 1, 0)", -2, x -> x.possibleMessage(0, 1, 0));
        dueRefused("possibleMessage(1, 2, 0)", -2, x -> x.possibleMessage(1, 2, 0));
        dueRefused("possibleMessage(2, 1, 0)", -2, x -> x.possibleMessage(2, 1, 0));
        dueRefused("possibleMessage(1, 3, 0)", -2, x -> x.possibleMessage(1, 3, 0));
        due("possibleMessage(170, 170, 0)", coder(8).possibleMessage(170, 170, 0), 0);
    }

    private static void outOfRangeComesBeforeMissingMessages() {
        dueRefused("possibleMessage(3, 1, -1)", -2, x -> x.possibleMessage(3, 1, -1));
        dueRefused("possibleMessage(4, 0, MOST)", -2, x -> x.possibleMessage(4, 0, MOST));
        dueRefused("possibleMessage(3, 4, MOST)", -2, x -> x.possibleMessage(3, 4, MOST));
        dueRefused("possibleMessage(1, 2, MOST)", -2, x -> x.possibleMessage(1, 2, MOST));
    }

    private static void promise24() {
        sentence(24, "in ascending order, from 0", BoundaryTest::thePossibleMessagesAscendToTheLast);
        sentence(24, "MISSING if there are not so many possible messages",
            BoundaryTest::possibleMessagesBeyondTheLastAreMissing);
        sentence(24, "MISSING if there are not so many possible messages [none]",
            BoundaryTest::thereIsNoPossibleMessageIfNoCodewordFits);
        sentence(24, "or index is negative", BoundaryTest::negativeIndicesOfMessagesAreOutOfRange);
        sentence(24, "OUT_OF_RANGE if set or bits is out of range [set]", BoundaryTest::noSetsHaveNoPossibleMessage);
        sentence(24, "OUT_OF_RANGE if set or bits is out of range [bits]",
            BoundaryTest::bitsOutOfRangeHaveNoPossibleMessage);
        sentence(24, "bits is not a subset of set",
            BoundaryTest::bitsOutsideTheSetHaveNoPossibleMessage);
        sentence(24, ORDER, BoundaryTest::outOfRangeComesBeforeMissingMessages);
        notUndoable(24, "possibleMessage(0, 0, 0)", x -> x.possibleMessage(0, 0, 0));
    }

    // ---- promise 25

    private static void thereAreNoCombinationsWithoutMessageRows() {
        due("knownCombinations(63) of no rows", new CosetCoder().knownCombinations(63), 0);
        due("knownCombinations(63) of check rows", sixCheckRows().knownCombinations(63), 0);
    }

    private static void allPositionsDetermineAllCombinations() {
        for (int n = 1; n <= 8; n++) {
            CosetCoder x = coder(n, 1, (1 << n) - 1, 1 << (n - 1));
            due("knownCombinations of all at length " + n, x.knownCombinations((1 << n) - 1), 7);
            dueErrors(x, 0, 0, 0, 0, 0);
        }
        due("knownCombinations(63), the most", sixMessageRows().knownCombinations(63), 63);
        due("knownCombinations(31), all but one position", sixMessageRows().knownCombinations(31), 31);
    }

    private static void theEmptySetDeterminesWhatIsConstant() {
        due("knownCombinations(0)", sixMessageRows().knownCombinations(0), 0);
        due("knownCombinations(0) of a row twice", coder(6, 7, 7).knownCombinations(0), 1);
        due("knownCombinations(0) of a checked row", coder(6, -7, 7).knownCombinations(0), 1);
        due("knownCombinations(0) of six equal rows", coder(1, 1, 1, 1, 1, 1, 1).knownCombinations(0), 31);
    }

    private static void noSetsDetermineNothing() {
        for (int n = 1; n <= 8; n++) {
            for (int set : noWords(n)) {
                due("knownCombinations(" + set + ") at length " + n, coder(n, 1).knownCombinations(set), -2);
            }
        }
        dueRefused("knownCombinations(4)", -2, x -> x.knownCombinations(4));
        dueRefused("knownCombinations(-1)", -2, x -> x.knownCombinations(-1));
    }

    private static void promise25() {
        sentence(25, "1 to 2^m - 1 with m the number of message rows [none]",
            BoundaryTest::thereAreNoCombinationsWithoutMessageRows);
        sentence(25, "1 to 2^m - 1 with m the number of message rows [all]",
            BoundaryTest::allPositionsDetermineAllCombinations);
        sentence(25, "for all codewords that agree on the positions of the set [empty]",
            BoundaryTest::theEmptySetDeterminesWhatIsConstant);
        sentence(25, "OUT_OF_RANGE if set is out of range", BoundaryTest::noSetsDetermineNothing);
        notUndoable(25, "knownCombinations(1)", x -> x.knownCombinations(1));
    }

    // ---- promise 26

    private static void nothingSavedIsRefused() {
        CosetCoder x = new CosetCoder();
        due("undo()", x.undo(), -6);
        due("undo() again", x.undo(), -6);
        dueErrors(x, 0, 0, 0, 0, 2);
        dueRows(x);
        dueLength(x, 6);
    }

    private static void nothingIsSavedAfterTheLastUndo() {
        CosetCoder x = new CosetCoder();
        due("addRow(5, 1)", x.addRow(5, 1), 0);
        due("undo()", x.undo(), 0);
        due("undo() again", x.undo(), -6);
        dueRows(x);
        due("addRow(6, 0)", x.addRow(6, 0), 0);
        due("undo()", x.undo(), 0);
    }

    private static void fourStatesAreSaved() {
        CosetCoder x = new CosetCoder();
        for (int i = 0; i < 4; i++) {
            due("addRow()", x.addRow(i + 1, 0), i);
        }
        for (int left = 3; left >= 0; left--) {
            due("undo()", x.undo(), left);
        }
        dueRows(x);
        due("undo() for the fifth time", x.undo(), -6);
    }

    private static void theFifthDropsTheOldest() {
        CosetCoder x = coder(6, 1, 2, 4, 8);
        for (int left = 3; left >= 0; left--) {
            due("undo()", x.undo(), left);
        }
        dueRows(x);
        due("undo() for the fifth time", x.undo(), -6);
        CosetCoder y = new CosetCoder();
        for (int i = 0; i < 5; i++) {
            y.addRow(i + 1, 1);
        }
        for (int left = 3; left >= 0; left--) {
            due("undo()", y.undo(), left);
        }
        dueRows(y, -1);
        due("undo() for the fifth time", y.undo(), -6);
        dueRows(y, -1);
    }

    private static void manySavedStatesComeBackInTurn() {
        CosetCoder x = new CosetCoder();
        int[] lengths = {1, 2, 3, 4, 5, 7, 8, 1, 2, 3, 4};
        for (int n : lengths) {
            x.setLength(n);
        }
        int[] back = {3, 2, 1, 8};
        for (int i = 0; i < back.length; i++) {
            due("undo()", x.undo(), 3 - i);
            dueLength(x, back[i]);
        }
        due("undo() for the fifth time", x.undo(), -6);
        dueLength(x, 8);
    }

    private static void savingGoesOnAfterAnUndo() {
        CosetCoder x = coder(6, 1, 2, 3, 4);
        due("undo()", x.undo(), 3);
        due("undo()", x.undo(), 2);
        x.addRow(5, 1);
        x.addRow(6, 1);
        x.addRow(7, 1);
        for (int left = 3; left >= 1; left--) {
            due("undo()", x.undo(), left);
        }
        dueRows(x, 1, 2);
        due("undo()", x.undo(), 0);
        dueRows(x, 1);
        due("undo()", x.undo(), -6);
    }

    private static void refusedCallsSaveNothing() {
        CosetCoder x = new CosetCoder();
        x.setLength(0);
        x.addRow(0, 0);
        x.removeRow(0);
        due("undo() after refused calls", x.undo(), -6);
        CosetCoder full = sixMessageRows();
        for (int i = 0; i < 5; i++) {
            full.setLength(9);
            full.addRow(1, 0);
            full.addRow(64, 0);
            full.removeRow(6);
        }
        for (int left = 3; left >= 0; left--) {
            due("undo()", full.undo(), left);
        }
        dueRows(full, 1, 2);
    }

    private static void callsThatChangeNothingAreSaved() {
        CosetCoder x = new CosetCoder();
        x.setLength(6);
        x.removeDependentRows();
        x.setLength(6);
        due("undo()", x.undo(), 2);
        due("undo()", x.undo(), 1);
        due("undo()", x.undo(), 0);
        due("undo()", x.undo(), -6);
        CosetCoder y = coder(6, 1);
        for (int i = 0; i < 4; i++) {
            due("removeDependentRows()", y.removeDependentRows(), 0);
        }
        due("undo(), the change itself is dropped", y.undo(), 3);
        y.undo();
        y.undo();
        due("undo()", y.undo(), 0);
        dueRows(y, 1);
    }

    private static void theLengthAndTheRowsComeBack() {
        CosetCoder x = coder(8, 255, -128, 1, -2, 3, -4);
        x.setLength(1);
        x.addRow(1, 1);
        x.addRow(1, 0);
        due("undo()", x.undo(), 3);
        due("undo()", x.undo(), 2);
        dueRows(x);
        dueLength(x, 1);
        due("undo()", x.undo(), 1);
        dueRows(x, 255, -128, 1, -2, 3, -4);
        dueLength(x, 8);
    }

    private static void theSixthRowComesBack() {
        CosetCoder x = coder(6, 1, 2, 3, 4, 5, -6);
        x.removeRow(5);
        x.addRow(63, 0);
        due("undo()", x.undo(), 3);
        dueRows(x, 1, 2, 3, 4, 5);
        due("undo()", x.undo(), 2);
        dueRows(x, 1, 2, 3, 4, 5, -6);
    }

    private static void theCountersDoNotComeBack() {
        CosetCoder x = busy();
        x.addRow(1, 0);
        x.decode(1);
        x.encode(1, 0);
        x.row(6);
        due("undo()", x.undo(), 3);
        dueErrors(x, 1, 1, 1, 1, 0);
    }

    private static void undoItselfIsNotUndoable() {
        CosetCoder x = new CosetCoder();
        x.addRow(1, 0);
        x.addRow(2, 0);
        due("undo()", x.undo(), 1);
        due("undo()", x.undo(), 0);
        dueRows(x);
    }

    private static void promise26() {
        sentence(26, "NOTHING_SAVED if there is none", BoundaryTest::nothingSavedIsRefused);
        sentence(26, "and removes it from the saved states", BoundaryTest::nothingIsSavedAfterTheLastUndo);
        sentence(26, "at most 4 states are saved", BoundaryTest::fourStatesAreSaved);
        sentence(26, "the oldest is dropped first", BoundaryTest::theFifthDropsTheOldest);
        sentence(26, "Restores the most recently saved state", BoundaryTest::manySavedStatesComeBackInTurn);
        sentence(26, "Returns the number of saved states that remain", BoundaryTest::savingGoesOnAfterAnUndo);
        sentence(26, UNDOABLE + " [refused calls]", BoundaryTest::refusedCallsSaveNothing);
        sentence(26, "even if the call changes nothing", BoundaryTest::callsThatChangeNothingAreSaved);
        sentence(26, "The saved state contains the word length and the rows",
            BoundaryTest::theLengthAndTheRowsComeBack);
        sentence(26, "The saved state contains the word length and the rows [six]",
            BoundaryTest::theSixthRowComesBack);
        sentence(26, "The saved state contains the word length and the rows. [no counters]",
            BoundaryTest::theCountersDoNotComeBack);
        sentence(26, UNDOABLE + " [undo itself]", BoundaryTest::undoItselfIsNotUndoable);
    }

    // ---- promise 27

    private static void theConstantsAreAsTheDocumentSays() {
        due("NONE", CosetCoder.NONE, -1);
        due("OUT_OF_RANGE", CosetCoder.OUT_OF_RANGE, -2);
        due("MISSING", CosetCoder.MISSING, -3);
        due("FULL", CosetCoder.FULL, -4);
        due("AMBIGUOUS", CosetCoder.AMBIGUOUS, -5);
        due("NOTHING_SAVED", CosetCoder.NOTHING_SAVED, -6);
    }

    private static CosetCoder withFiveDifferentCounters() {
        CosetCoder x = new CosetCoder();
        for (int i = 0; i < 5; i++) {
            x.undo();
        }
        x.setLength(2);
        x.addRow(3, 1);
        for (int i = 0; i < 5; i++) {
            x.addRow(1, 0);
        }
        for (int i = 0; i < 4; i++) {
            x.decode(1);
        }
        for (int i = 0; i < 3; i++) {
            x.addRow(1, 0);
        }
        x.encode(63, 0);
        x.possibleMessage(3, 1, 0);
        x.row(6);
        return x;
    }

    private static void theCodesFromMinus6ToMinus2HaveCounters() {
        CosetCoder x = withFiveDifferentCounters();
        dueErrors(x, 1, 2, 3, 4, 5);
        dueErrors(x, 1, 2, 3, 4, 5);
    }

    private static void otherCodesAreRefused() {
        for (int code : new int[] {-1, 0, 1, 2, 6, -7, -8, LEAST, LEAST + 1, MOST}) {
            dueRefused("errorCount(" + code + ")", -2, x -> x.errorCount(code));
        }
    }

    private static void aRefusedCodeIsCountedAsOutOfRange() {
        CosetCoder x = new CosetCoder();
        due("errorCount(-1)", x.errorCount(-1), -2);
        due("errorCount(-2)", x.errorCount(-2), 1);
        due("errorCount(-7)", x.errorCount(-7), -2);
        due("errorCount(-2)", x.errorCount(-2), 2);
        due("errorCount(-2) again", x.errorCount(-2), 2);
        dueErrors(x, 2, 0, 0, 0, 0);
    }

    private static void noneIsNotCounted() {
        CosetCoder x = new CosetCoder();
        due("weakness()", x.weakness(), -1);
        due("leastSize(1)", x.leastSize(1), -1);
        dueErrors(x, 0, 0, 0, 0, 0);
    }

    private static void eachCodeCountsForItselfAndChangesNothing() {
        dueRefused("removeRow(6)", -2, x -> x.removeRow(6));
        dueRefused("encode(63, 0)", -3, x -> x.encode(63, 0));
        dueRefused("addRow(1, 0)", -4, x -> x.addRow(1, 0));
        dueRefused("decode(1)", -5, x -> x.decode(1));
        CosetCoder x = coder(2, -3, 1);
        x.undo();
        x.undo();
        x.undo();
        due("undo()", x.undo(), -6);
        dueErrors(x, 0, 0, 0, 0, 1);
        dueRows(x);
        dueLength(x, 6);
    }

    private static void promise27() {
        sentence(27, "The constants:", BoundaryTest::theConstantsAreAsTheDocumentSays);
        sentence(27, "an error code, -6 to -2", BoundaryTest::theCodesFromMinus6ToMinus2HaveCounters);
        sentence(27, "OUT_OF_RANGE if code is out of range", BoundaryTest::otherCodesAreRefused);
        sentence(27, "this increments the counter of OUT_OF_RANGE", BoundaryTest::aRefusedCodeIsCountedAsOutOfRange);
        sentence(27, "`NONE = -1`: There is no such number. [no error code]", BoundaryTest::noneIsNotCounted);
        sentence(27, "A call that returns an error code changes nothing except that it increments the counter",
            BoundaryTest::eachCodeCountsForItselfAndChangesNothing);
        notUndoable(27, "errorCount(-2)", x -> x.errorCount(-2));
    }

    // ---- promise 28

    private static void theDigestOfANewObject() {
        due("digest()", new CosetCoder().digest(), hash(0, 0, 0, 0, 0, 6, 0, 0, 0, 0, 64, 1, 6, -1,
            0, 0, 0, 1, 0, 3, 0, 7, 0, 15, 0, 31, 0, 63, 0));
    }

    private static void theDigestOfTheLeastLength() {
        due("digest()", coder(1).digest(), hash(0, 0, 0, 0, 0, 1, 0, 0, 0, 0, 2, 1, 1, -1, 0, 0, 0, 1, 1));
    }

    private static void theDigestOfTheGreatestLengthAndSixRows() {
        due("digest()", coder(8, 1, 2, 4, 8, 16, 32).digest(), hash(0, 0, 0, 0, 0, 8, 6,
            1, 0, 2, 0, 4, 0, 8, 0, 16, 0, 32, 0, 6, 0, 6, 256, 64, 0, 1,
            0, 0, 1, 1, 2, 3, 3, 7, 4, 15, 5, 31, 6, 63, 6, 127, 6, 255, 4));
    }

    private static void theDigestTakesTheCountersFromMinus2ToMinus6() {
        due("digest()", withFiveDifferentCounters().digest(), hash(1, 2, 3, 4, 5, 2, 6,
            3, 1, 1, 0, 1, 0, 1, 0, 1, 0, 1, 0, 1, 1, 2, 2, 2, 0, 1, 0, 0, 1, 1, 1, 3, 4));
    }

    private static void theDigestTakesTheNumberOfSavedStates() {
        CosetCoder x = new CosetCoder();
        long[] most = {0, 0, 0, 0, 0, 6, 0, 0, 0, 0, 64, 1, 6, -1, 0, 0, 0, 1, 0, 3, 0, 7, 0, 15, 0, 31, 0, 63};
        for (int saves = 1; saves <= 6; saves++) {
            x.removeDependentRows();
            due("digest() after " + saves + " saves", x.digest(), 31 * hash(most) + Math.min(saves, 4));
        }
    }

    private static void theDigestWrapsAround() {
        BigInteger exact = exactHash(0, 0, 0, 0, 0, 1, 0, 0, 0, 0, 2, 1, 1, -1, 0, 0, 0, 1, 1);
        due("the exact number is beyond long", exact.bitLength() > 64 ? 1 : 0, 1);
        BigInteger low = exact.mod(BigInteger.ONE.shiftLeft(64));
        due("digest(), the low 64 bits", coder(1).digest(), low.longValue());
    }

    private static void theDigestChangesNothing() {
        CosetCoder x = busy();
        long first = x.digest();
        due("digest() again", x.digest(), first);
        dueErrors(x, 0, 0, 0, 0, 0);
        due("undo()", x.undo(), 3);
        CosetCoder fresh = new CosetCoder();
        fresh.digest();
        due("undo() of a new object", fresh.undo(), -6);
    }

    private static void promise28() {
        sentence(28, "Returns a hash of the state. [no rows, nothing saved]", BoundaryTest::theDigestOfANewObject);
        sentence(28, "for each size from 0 to n worstLeakage() and worstSet() [the least n]",
            BoundaryTest::theDigestOfTheLeastLength);
        sentence(28, "for each size from 0 to n worstLeakage() and worstSet() [the greatest n]",
            BoundaryTest::theDigestOfTheGreatestLengthAndSixRows);
        sentence(28, "the counters of the codes -2, -3, -4, -5, -6",
            BoundaryTest::theDigestTakesTheCountersFromMinus2ToMinus6);
        sentence(28, "the number of saved states", BoundaryTest::theDigestTakesTheNumberOfSavedStates);
        sentence(28, "with the overflow of long arithmetic ignored", BoundaryTest::theDigestWrapsAround);
        sentence(28, UNDOABLE + " [another method]", BoundaryTest::theDigestChangesNothing);
    }

    private static void everyPromiseHasATest() {
        for (int promise = 1; promise <= PROMISES; promise++) {
            place = "promise " + promise;
            due("the number of tests is not 0", TESTED[promise] ? 1 : 0, 1);
        }
    }

    public static void main(String[] args) {
        promise1();
        promise2();
        promise3();
        promise4();
        promise5();
        promises6And7();
        promise8();
        promises9And10();
        promises11And12();
        promise13();
        promise14();
        promises15And16();
        promise17();
        promise18();
        promises19And20();
        promise21();
        promise22();
        promise23();
        promise24();
        promise25();
        promise26();
        promise27();
        promise28();
        everyPromiseHasATest();
        if (wrong > 0) {
            System.exit(1);
        }
    }
}
