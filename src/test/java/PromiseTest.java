/**
 * One method for each promise of the document: ordinary inputs, the edges that it names, and wrong
 * inputs, with the answers worked out by hand from the document's words.
 */
public final class PromiseTest {
    private static final int LEAST = Integer.MIN_VALUE;
    private static final int MOST = Integer.MAX_VALUE;

    private static int wrong = 0;
    private static String place = "";

    private static void due(String call, long got, long want) {
        if (got != want) {
            wrong++;
            System.out.println(place + ": " + call + " answered " + got + ", due is " + want);
        }
    }

    /** A new coder with a word length and rows; a negative number -r stands for the check row r. */
    private static CosetCoder coder(int length, int... rows) {
        CosetCoder x = new CosetCoder();
        x.setLength(length);
        for (int row : rows) {
            x.addRow(Math.abs(row), row < 0 ? 1 : 0);
        }
        return x;
    }

    /** Word length 7, the check rows of the Hamming code and one message row. */
    private static CosetCoder hamming() {
        return coder(7, -85, -102, -120, 1);
    }

    private static void dueRows(CosetCoder x, int... rows) {
        for (int i = 0; i < rows.length; i++) {
            due("row(" + i + ")", x.row(i), Math.abs(rows[i]));
            due("isCheck(" + i + ")", x.isCheck(i), rows[i] < 0 ? 1 : 0);
        }
        int counted = x.errorCount(-2);
        due("row after the last", x.row(rows.length), -2);
        due("errorCount(-2)", x.errorCount(-2), counted + 1);
    }

    /** Calls one after another may only be counted as errors of these kinds: -2, -3, -4, -5, -6. */
    private static void dueErrors(CosetCoder x, int... counts) {
        for (int i = 0; i < counts.length; i++) {
            due("errorCount(" + (-2 - i) + ")", x.errorCount(-2 - i), counts[i]);
        }
    }

    private static void promise1NewObject() {
        CosetCoder x = new CosetCoder();
        dueErrors(x, 0, 0, 0, 0, 0);
        due("codewords()", x.codewords(), 64);
        due("message(63)", x.message(63), 0);
        dueErrors(x, 0, 0, 0, 0, 0);
        due("message(64)", x.message(64), -2);
        due("row(0)", x.row(0), -2);
        due("undo()", x.undo(), -6);
        due("setLength(6)", x.setLength(6), 6);
    }

    private static void promise2SetLength() {
        CosetCoder x = new CosetCoder();
        due("addRow(63, 0)", x.addRow(63, 0), 0);
        for (int bad : new int[] {0, 9, -1, LEAST, MOST}) {
            due("setLength(" + bad + ")", x.setLength(bad), -2);
        }
        dueErrors(x, 5, 0, 0, 0, 0);
        dueRows(x, 63);
        due("setLength(1)", x.setLength(1), 6);
        dueRows(x);
        due("codewords()", x.codewords(), 2);
        due("setLength(8)", x.setLength(8), 1);
        due("codewords()", x.codewords(), 256);
        due("setLength(8) again", x.setLength(8), 8);
        due("undo()", x.undo(), 3);
        due("undo()", x.undo(), 2);
        due("undo()", x.undo(), 1);
        due("codewords()", x.codewords(), 64);
        dueRows(x, 63);
    }

    private static void promise3AddRow() {
        CosetCoder x = new CosetCoder();
        int[][] bad = {{0, 0}, {64, 0}, {-1, 0}, {LEAST, 1}, {MOST, 1}, {1, 2}, {1, -1}, {0, 2}, {1, MOST}};
        for (int[] b : bad) {
            due("addRow(" + b[0] + ", " + b[1] + ")", x.addRow(b[0], b[1]), -2);
        }
        dueErrors(x, bad.length, 0, 0, 0, 0);
        due("undo()", x.undo(), -6);
        due("addRow(63, 1)", x.addRow(63, 1), 0);
        due("addRow(1, 0)", x.addRow(1, 0), 1);
        due("addRow(1, 0)", x.addRow(1, 0), 2);
        due("addRow(1, 1)", x.addRow(1, 1), 3);
        due("addRow(32, 0)", x.addRow(32, 0), 4);
        due("addRow(9, 1)", x.addRow(9, 1), 5);
        due("addRow(2, 0) as the seventh", x.addRow(2, 0), -4);
        due("addRow(64, 0) as the seventh", x.addRow(64, 0), -2);
        due("addRow(2, 2) as the seventh", x.addRow(2, 2), -2);
        dueErrors(x, bad.length + 2, 0, 1, 0, 1);
        dueRows(x, -63, 1, 1, -1, 32, -9);
        due("undo()", x.undo(), 3);
        dueRows(x, -63, 1, 1, -1, 32);
        due("addRow(128, 0) at length 8", coder(8).addRow(128, 0), 0);
        due("addRow(2, 0) at length 1", coder(1).addRow(2, 0), -2);
    }

    private static void promise4RemoveRow() {
        CosetCoder x = coder(6, 1, -2, 3, -4, 5, -6);
        for (int bad : new int[] {6, -1, LEAST, MOST}) {
            due("removeRow(" + bad + ")", x.removeRow(bad), -2);
        }
        dueErrors(x, 4, 0, 0, 0, 0);
        due("removeRow(1)", x.removeRow(1), 5);
        dueRows(x, 1, 3, -4, 5, -6);
        due("removeRow(4)", x.removeRow(4), 4);
        due("removeRow(4) again", x.removeRow(4), -2);
        due("removeRow(0)", x.removeRow(0), 3);
        dueRows(x, 3, -4, 5);
        due("undo()", x.undo(), 3);
        dueRows(x, 1, 3, -4, 5);
        CosetCoder y = coder(6, 1);
        due("removeRow(0)", y.removeRow(0), 0);
        due("removeRow(0)", y.removeRow(0), -2);
    }

    private static void promise5RemoveDependentRows() {
        CosetCoder x = coder(6, 7, -56, 63, -7, 1);
        due("removeDependentRows()", x.removeDependentRows(), 2);
        dueRows(x, 7, -56, 1);
        due("removeDependentRows()", x.removeDependentRows(), 0);
        dueRows(x, 7, -56, 1);
        due("undo()", x.undo(), 3);
        due("undo()", x.undo(), 2);
        dueRows(x, 7, -56, 63, -7, 1);
        CosetCoder y = coder(2, 3, 3, -3, 1, 2, -1);
        due("removeDependentRows()", y.removeDependentRows(), 4);
        dueRows(y, 3, 1);
        CosetCoder z = new CosetCoder();
        due("removeDependentRows() of no rows", z.removeDependentRows(), 0);
        due("undo()", z.undo(), 0);
        CosetCoder full = coder(6, 6, 5, 48, 40, 3, 24);
        due("removeDependentRows()", full.removeDependentRows(), 2);
        dueRows(full, 6, 5, 48, 40);
    }

    private static void promise6Row() {
        CosetCoder x = coder(8, 255, -1);
        due("row(0)", x.row(0), 255);
        due("row(1)", x.row(1), 1);
        for (int bad : new int[] {2, 6, -1, LEAST, MOST}) {
            due("row(" + bad + ")", x.row(bad), -2);
        }
        dueErrors(x, 5, 0, 0, 0, 0);
    }

    private static void promise7IsCheck() {
        CosetCoder x = coder(8, 255, -1);
        due("isCheck(0)", x.isCheck(0), 0);
        due("isCheck(1)", x.isCheck(1), 1);
        for (int bad : new int[] {2, 6, -1, LEAST, MOST}) {
            due("isCheck(" + bad + ")", x.isCheck(bad), -2);
        }
        dueErrors(x, 5, 0, 0, 0, 0);
    }

    private static void promise8Rank() {
        CosetCoder empty = new CosetCoder();
        CosetCoder x = coder(6, 7, -56, 63, -7, 7);
        int[] want = {2, 2, 2};
        for (int kind = 0; kind < 3; kind++) {
            due("rank(" + kind + ") of no rows", empty.rank(kind), 0);
            due("rank(" + kind + ")", x.rank(kind), want[kind]);
        }
        CosetCoder y = coder(6, 1, -2, 4, -8, 16, 21);
        due("rank(0)", y.rank(0), 3);
        due("rank(1)", y.rank(1), 2);
        due("rank(2)", y.rank(2), 5);
        due("rank(2) of six", coder(6, 1, 3, 7, 15, 31, 63).rank(2), 6);
        for (int bad : new int[] {3, -1, LEAST, MOST}) {
            due("rank(" + bad + ")", y.rank(bad), -2);
        }
        dueErrors(y, 4, 0, 0, 0, 0);
    }

    private static void promise9Message() {
        CosetCoder x = coder(6, 1, -2, 6, 63);
        due("message(0)", x.message(0), 0);
        due("message(1)", x.message(1), 5);
        due("message(2)", x.message(2), 6);
        due("message(6)", x.message(6), 0);
        due("message(63)", x.message(63), 1);
        for (int bad : new int[] {64, -1, LEAST, MOST}) {
            due("message(" + bad + ")", x.message(bad), -2);
        }
        dueErrors(x, 4, 0, 0, 0, 0);
        due("message(32) of six rows", coder(6, 1, 2, 4, 8, 16, 32).message(32), 32);
    }

    private static void promise10CheckValue() {
        CosetCoder x = coder(6, -1, 2, -6, -63);
        due("checkValue(0)", x.checkValue(0), 0);
        due("checkValue(1)", x.checkValue(1), 5);
        due("checkValue(2)", x.checkValue(2), 6);
        due("checkValue(6)", x.checkValue(6), 0);
        due("checkValue(63)", x.checkValue(63), 1);
        for (int bad : new int[] {64, -1, LEAST, MOST}) {
            due("checkValue(" + bad + ")", x.checkValue(bad), -2);
        }
        dueErrors(x, 4, 0, 0, 0, 0);
        due("checkValue(32) of six rows", coder(6, -1, -2, -4, -8, -16, -32).checkValue(32), 32);
    }

    private static void promise11Codewords() {
        due("codewords()", hamming().codewords(), 16);
        due("codewords() of a check row twice", coder(6, -5, -5, 1).codewords(), 32);
        due("codewords() of message rows", coder(3, 1, 2, 4).codewords(), 8);
        due("codewords(), the least", coder(2, -1, -2, -3).codewords(), 1);
        due("codewords(), the most", coder(8).codewords(), 256);
    }

    private static void promise12Messages() {
        due("messages() of no rows", new CosetCoder().messages(), 1);
        due("messages()", coder(6, 7, 56, 63).messages(), 4);
        due("messages()", hamming().messages(), 2);
        due("messages() of a row that is checked", coder(6, -7, -56, 63).messages(), 1);
        due("messages(), the most", coder(6, 1, 2, 4, 8, 16, 32).messages(), 64);
    }

    private static void promise13Choices() {
        CosetCoder x = coder(6, 7, 56, 63);
        due("choices(0)", x.choices(0), 16);
        due("choices(5)", x.choices(5), 16);
        due("choices(1)", x.choices(1), 0);
        due("choices(63)", x.choices(63), 0);
        due("choices(1)", hamming().choices(1), 8);
        due("choices(63)", coder(6, 1, 2, 4, 8, 16, 32).choices(63), 1);
        for (int bad : new int[] {64, -1, LEAST, MOST}) {
            due("choices(" + bad + ")", x.choices(bad), -2);
        }
        dueErrors(x, 4, 0, 0, 0, 0);
    }

    private static void promise14Encode() {
        CosetCoder x = coder(3, 3, -7);
        due("encode(0, 0)", x.encode(0, 0), 0);
        due("encode(0, 1)", x.encode(0, 1), 3);
        due("encode(0, 2)", x.encode(0, 2), -3);
        due("encode(1, 0)", x.encode(1, 0), 5);
        due("encode(1, 1)", x.encode(1, 1), 6);
        due("encode(1, 2)", x.encode(1, 2), -3);
        due("encode(1, MOST)", x.encode(1, MOST), -3);
        due("encode(63, 0)", x.encode(63, 0), -3);
        dueErrors(x, 0, 4, 0, 0, 0);
        int[][] bad = {{64, 0}, {-1, 0}, {LEAST, 0}, {MOST, 0}, {0, -1}, {63, -1}, {1, LEAST}, {64, MOST}};
        for (int[] b : bad) {
            due("encode(" + b[0] + ", " + b[1] + ")", x.encode(b[0], b[1]), -2);
        }
        dueErrors(x, bad.length, 4, 0, 0, 0);
        due("encode(0, 255) at length 8", coder(8).encode(0, 255), 255);
    }

    private static void promise15Decode() {
        CosetCoder x = hamming();
        due("decode(127)", x.decode(127), 1);
        due("decode(126)", x.decode(126), 1);
        due("decode(1)", x.decode(1), 0);
        CosetCoder y = coder(2, -3, 1);
        due("decode(0)", y.decode(0), 0);
        due("decode(3)", y.decode(3), 1);
        due("decode(1)", y.decode(1), -5);
        due("decode(2)", y.decode(2), -5);
        due("decode(4)", y.decode(4), -2);
        due("decode(-1)", y.decode(-1), -2);
        due("decode(LEAST)", y.decode(LEAST), -2);
        due("decode(MOST)", y.decode(MOST), -2);
        dueErrors(y, 4, 0, 0, 2, 0);
        due("decode(1), two nearest of one message", coder(2, -3).decode(1), 0);
        due("decode(63)", new CosetCoder().decode(63), 0);
    }

    private static void promise16Distance() {
        CosetCoder x = coder(6, -3, -12, -48);
        due("distance(0)", x.distance(0), 0);
        due("distance(63)", x.distance(63), 0);
        due("distance(1)", x.distance(1), 1);
        due("distance(21)", x.distance(21), 3);
        due("distance(31) with 0 the only codeword", coder(5, -1, -2, -4, -8, -16).distance(31), 5);
        due("distance(5) of no rows", new CosetCoder().distance(5), 0);
        for (int bad : new int[] {64, -1, LEAST, MOST}) {
            due("distance(" + bad + ")", x.distance(bad), -2);
        }
        dueErrors(x, 4, 0, 0, 0, 0);
    }

    private static void promise17Weakness() {
        CosetCoder none = new CosetCoder();
        due("weakness() of no rows", none.weakness(), -1);
        dueErrors(none, 0, 0, 0, 0, 0);
        due("weakness()", hamming().weakness(), 2);
        due("weakness() of one message", coder(6, -7, 7).weakness(), -1);
        due("weakness() by an ambiguity", coder(2, -3, 1).weakness(), 1);
        due("weakness(), six alike, one free", coder(7, -3, -6, -12, -24, -48, 1).weakness(), 3);
        due("weakness(), six alike", coder(6, -3, -6, -12, -24, -48, 1).weakness(), 3);
        due("weakness(), five alike", coder(5, -3, -6, -12, -24, 1).weakness(), 3);
        due("weakness(), four alike", coder(4, -3, -6, -12, 1).weakness(), 2);
        CosetCoder ambiguous = coder(2, -3, 1);
        ambiguous.weakness();
        dueErrors(ambiguous, 0, 0, 0, 0, 0);
    }

    private static void promise18Leakage() {
        CosetCoder x = coder(6, 63);
        due("leakage(62)", x.leakage(62), 0);
        due("leakage(63)", x.leakage(63), 1);
        due("leakage(0)", x.leakage(0), 0);
        CosetCoder y = coder(4, 3, 5, -9);
        due("leakage(3)", y.leakage(3), 1);
        due("leakage(8)", y.leakage(8), 0);
        due("leakage(10), position 3 betrays position 0", y.leakage(10), 1);
        due("leakage(14)", y.leakage(14), 2);
        due("leakage(15)", y.leakage(15), 2);
        due("leakage(63), the most", coder(6, 1, 2, 4, 8, 16, 32).leakage(63), 6);
        due("leakage(63) of a checked row", coder(6, -63, 63).leakage(63), 0);
        for (int bad : new int[] {64, -1, LEAST, MOST}) {
            due("leakage(" + bad + ")", x.leakage(bad), -2);
        }
        dueErrors(x, 4, 0, 0, 0, 0);
    }

    private static void promise19WorstLeakage() {
        CosetCoder x = coder(4, 6, 8);
        int[] want = {0, 1, 1, 2, 2};
        for (int size = 0; size < want.length; size++) {
            due("worstLeakage(" + size + ")", x.worstLeakage(size), want[size]);
        }
        for (int bad : new int[] {5, -1, LEAST, MOST}) {
            due("worstLeakage(" + bad + ")", x.worstLeakage(bad), -2);
        }
        dueErrors(x, 4, 0, 0, 0, 0);
        due("worstLeakage(8) at length 8", coder(8, 255).worstLeakage(8), 1);
        due("worstLeakage(7) at length 8", coder(8, 255).worstLeakage(7), 0);
    }

    private static void promise20WorstSet() {
        CosetCoder x = coder(4, 6, 8);
        int[] want = {0, 8, 6, 14, 15};
        for (int size = 0; size < want.length; size++) {
            due("worstSet(" + size + ")", x.worstSet(size), want[size]);
        }
        for (int bad : new int[] {5, -1, LEAST, MOST}) {
            due("worstSet(" + bad + ")", x.worstSet(bad), -2);
        }
        dueErrors(x, 4, 0, 0, 0, 0);
        due("worstSet(2), none leaks", coder(8, 255).worstSet(2), 3);
        due("worstSet(8)", coder(8, 255).worstSet(8), 255);
        due("worstSet(1), six bits stay hidden", coder(7, 65, 66, 68, 72, 80, 96).worstSet(1), 1);
    }

    private static void promise21Threshold() {
        due("threshold() of no rows", new CosetCoder().threshold(), 6);
        due("threshold() of check rows", coder(3, -1, -2).threshold(), 3);
        due("threshold()", coder(6, 63).threshold(), 5);
        due("threshold()", coder(6, 7, 56).threshold(), 2);
        due("threshold()", coder(6, 63, 1).threshold(), 0);
        due("threshold(), all but one of eight", coder(8, 255).threshold(), 7);
        due("threshold() of a checked row", coder(8, -255, 255).threshold(), 8);
        due("threshold(), position 5 betrays position 0", coder(6, 1, -33).threshold(), 0);
    }

    private static void promise22LeastSize() {
        CosetCoder x = coder(6, 7, 56);
        due("leastSize(1)", x.leastSize(1), 3);
        due("leastSize(2)", x.leastSize(2), 6);
        due("leastSize(3)", x.leastSize(3), -1);
        due("leastSize(6)", x.leastSize(6), -1);
        dueErrors(x, 0, 0, 0, 0, 0);
        for (int bad : new int[] {0, 7, -1, LEAST, MOST}) {
            due("leastSize(" + bad + ")", x.leastSize(bad), -2);
        }
        dueErrors(x, 5, 0, 0, 0, 0);
        due("leastSize(6)", coder(8, 1, 2, 4, 8, 16, 192).leastSize(6), 7);
        due("leastSize(1), all eight", coder(8, 255).leastSize(1), 8);
        due("leastSize(1) where sizes leap", coder(3, 3, 5).leastSize(1), 2);
        due("leastSize(2) where sizes leap", coder(3, 3, 5).leastSize(2), 3);
    }

    private static void promise23PossibleMessages() {
        CosetCoder x = coder(3, 3, -7);
        due("possibleMessages(0, 0)", x.possibleMessages(0, 0), 2);
        due("possibleMessages(4, 4)", x.possibleMessages(4, 4), 1);
        due("possibleMessages(1, 1)", x.possibleMessages(1, 1), 2);
        due("possibleMessages(7, 1), no codeword", x.possibleMessages(7, 1), 0);
        due("possibleMessages(7, 5)", x.possibleMessages(7, 5), 1);
        int[][] bad = {{8, 0}, {-1, 0}, {LEAST, 0}, {MOST, 1}, {1, 2}, {5, 7}, {7, 8}, {7, -1}, {0, LEAST}, {8, 8}};
        for (int[] b : bad) {
            due("possibleMessages(" + b[0] + ", " + b[1] + ")", x.possibleMessages(b[0], b[1]), -2);
        }
        dueErrors(x, bad.length, 0, 0, 0, 0);
        due("possibleMessages(0, 0), the most", coder(6, 1, 2, 4, 8, 16, 32).possibleMessages(0, 0), 64);
    }

    private static void promise24PossibleMessage() {
        CosetCoder x = coder(3, 1, 3, 6);
        int[] want = {0, 2, 4, 6, -3};
        for (int index = 0; index < want.length; index++) {
            due("possibleMessage(1, 0, " + index + ")", x.possibleMessage(1, 0, index), want[index]);
        }
        due("possibleMessage(7, 0, 1)", x.possibleMessage(7, 0, 1), -3);
        CosetCoder y = coder(3, 1, 3);
        due("possibleMessage(2, 2, 0)", y.possibleMessage(2, 2, 0), 1);
        due("possibleMessage(2, 2, 1)", y.possibleMessage(2, 2, 1), 2);
        due("possibleMessage(2, 2, 2)", y.possibleMessage(2, 2, 2), -3);
        due("possibleMessage(2, 2, MOST)", y.possibleMessage(2, 2, MOST), -3);
        dueErrors(y, 0, 2, 0, 0, 0);
        CosetCoder z = coder(3, 3, -7);
        due("possibleMessage(7, 1, 0), no codeword", z.possibleMessage(7, 1, 0), -3);
        int[][] bad = {{8, 0, 0}, {-1, 0, 0}, {1, 2, 0}, {7, 8, 0}, {7, -1, 0}, {7, 0, -1}, {0, 0, LEAST},
            {MOST, 0, MOST}, {1, 2, MOST}};
        for (int[] b : bad) {
            due("possibleMessage(" + b[0] + ", " + b[1] + ", " + b[2] + ")", z.possibleMessage(b[0], b[1], b[2]), -2);
        }
        dueErrors(z, bad.length, 1, 0, 0, 0);
        due("possibleMessage(0, 0, 63)", coder(6, 1, 2, 4, 8, 16, 32).possibleMessage(0, 0, 63), 63);
    }

    private static void promise25KnownCombinations() {
        CosetCoder x = coder(6, 63, 7, 56);
        due("knownCombinations(7)", x.knownCombinations(7), 3);
        due("knownCombinations(0)", x.knownCombinations(0), 1);
        due("knownCombinations(63)", x.knownCombinations(63), 7);
        due("knownCombinations(0) of no rows", new CosetCoder().knownCombinations(0), 0);
        due("knownCombinations(63) of no rows", new CosetCoder().knownCombinations(63), 0);
        due("knownCombinations(0) of a checked row", coder(8, -255, 255).knownCombinations(0), 1);
        due("knownCombinations(32), betrayed by a check", coder(6, 1, -33, 2).knownCombinations(32), 1);
        due("knownCombinations(63), the most", coder(6, 1, 2, 4, 8, 16, 32).knownCombinations(63), 63);
        for (int bad : new int[] {64, -1, LEAST, MOST}) {
            due("knownCombinations(" + bad + ")", x.knownCombinations(bad), -2);
        }
        dueErrors(x, 4, 0, 0, 0, 0);
    }

    private static void promise26Undo() {
        CosetCoder x = new CosetCoder();
        due("undo()", x.undo(), -6);
        due("addRow(1, 0)", x.addRow(1, 0), 0);
        due("addRow(2, 1)", x.addRow(2, 1), 1);
        due("removeRow(0)", x.removeRow(0), 1);
        due("setLength(3)", x.setLength(3), 6);
        due("addRow(7, 0)", x.addRow(7, 0), 0);
        due("removeDependentRows()", x.removeDependentRows(), 0);
        due("undo()", x.undo(), 3);
        dueRows(x, 7);
        due("undo()", x.undo(), 2);
        due("codewords()", x.codewords(), 8);
        dueRows(x);
        due("undo()", x.undo(), 1);
        due("codewords()", x.codewords(), 32);
        dueRows(x, -2);
        due("addRow(5, 0) between", x.addRow(5, 0), 1);
        due("undo()", x.undo(), 1);
        dueRows(x, -2);
        due("undo()", x.undo(), 0);
        dueRows(x, 1, -2);
        due("undo()", x.undo(), -6);
        dueRows(x, 1, -2);
        due("errorCount(-6), which undo does not bring back", x.errorCount(-6), 2);
    }

    private static void promise27ErrorCount() {
        CosetCoder x = coder(2, -3, 1);
        dueErrors(x, 0, 0, 0, 0, 0);
        x.decode(1);
        x.encode(5, 0);
        x.encode(5, 1);
        dueErrors(x, 0, 2, 0, 1, 0);
        int[] bad = {-1, -7, 0, 2, LEAST, MOST};
        for (int i = 0; i < bad.length; i++) {
            due("errorCount(" + bad[i] + ")", x.errorCount(bad[i]), -2);
            due("errorCount(-2)", x.errorCount(-2), i + 1);
        }
        for (int i = 0; i < 4; i++) {
            x.addRow(1, 0);
        }
        x.addRow(1, 0);
        x.setLength(4);
        for (int i = 0; i < 6; i++) {
            x.undo();
        }
        dueErrors(x, bad.length, 2, 1, 1, 2);
    }

    private static long hash(long... values) {
        long h = 2687;
        for (long v : values) {
            h = 31 * h + v;
        }
        return h;
    }

    private static void promise28Digest() {
        CosetCoder x = new CosetCoder();
        due("digest() of a new object", x.digest(), hash(0, 0, 0, 0, 0, 6, 0, 0, 0, 0, 64, 1, 6, -1,
            0, 0, 0, 1, 0, 3, 0, 7, 0, 15, 0, 31, 0, 63, 0));
        due("digest() again", x.digest(), hash(0, 0, 0, 0, 0, 6, 0, 0, 0, 0, 64, 1, 6, -1,
            0, 0, 0, 1, 0, 3, 0, 7, 0, 15, 0, 31, 0, 63, 0));
        x.setLength(2);
        x.addRow(3, 1);
        x.addRow(2, 0);
        x.decode(1);
        x.decode(2);
        x.encode(2, 0);
        x.row(7);
        x.row(8);
        x.row(9);
        due("digest()", x.digest(), hash(3, 1, 0, 2, 0, 2, 2, 3, 1, 2, 0, 1, 1, 2, 2, 2, 0, 1,
            0, 0, 1, 1, 1, 3, 3));
        x.undo();
        x.undo();
        x.undo();
        x.undo();
        x.setLength(1);
        for (int i = 0; i < 7; i++) {
            x.addRow(1, 0);
        }
        due("digest()", x.digest(), hash(3, 1, 1, 2, 1, 1, 6, 1, 0, 1, 0, 1, 0, 1, 0, 1, 0, 1, 0, 1, 0, 1, 2, 2, 0, 1,
            0, 0, 1, 1, 4));
    }

    private static void in(String name) {
        place = name;
    }

    public static void main(String[] args) {
        in("promise 1");
        promise1NewObject();
        in("promise 2");
        promise2SetLength();
        in("promise 3");
        promise3AddRow();
        in("promise 4");
        promise4RemoveRow();
        in("promise 5");
        promise5RemoveDependentRows();
        in("promise 6");
        promise6Row();
        in("promise 7");
        promise7IsCheck();
        in("promise 8");
        promise8Rank();
        in("promise 9");
        promise9Message();
        in("promise 10");
        promise10CheckValue();
        in("promise 11");
        promise11Codewords();
        in("promise 12");
        promise12Messages();
        in("promise 13");
        promise13Choices();
        in("promise 14");
        promise14Encode();
        in("promise 15");
        promise15Decode();
        in("promise 16");
        promise16Distance();
        in("promise 17");
        promise17Weakness();
        in("promise 18");
        promise18Leakage();
        in("promise 19");
        promise19WorstLeakage();
        in("promise 20");
        promise20WorstSet();
        in("promise 21");
        promise21Threshold();
        in("promise 22");
        promise22LeastSize();
        in("promise 23");
        promise23PossibleMessages();
        in("promise 24");
        promise24PossibleMessage();
        in("promise 25");
        promise25KnownCombinations();
        in("promise 26");
        promise26Undo();
        in("promise 27");
        promise27ErrorCount();
        in("promise 28");
        promise28Digest();
        if (wrong > 0) {
            System.exit(1);
        }
    }
}
