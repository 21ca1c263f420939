/**
 * The five examples of the document's section "Description", call for call: each begins with a new
 * object, and each answer that stands behind a call there is due here.
 */
public final class ExamplesTest {
    private static int wrong = 0;
    private static String example = "";

    private static void due(String call, int got, int want) {
        if (got != want) {
            wrong++;
            System.out.println("example " + example + ": " + call + " answered " + got + ", due is " + want);
        }
    }

    private static void oneMessageBitThatFivePositionsDoNotBetray() {
        example = "1";
        CosetCoder x = new CosetCoder();
        due("addRow(63, 0)", x.addRow(63, 0), 0);
        due("messages()", x.messages(), 2);
        due("encode(1, 0)", x.encode(1, 0), 1);
        due("message(7)", x.message(7), 1);
        due("leakage(62)", x.leakage(62), 0);
        due("leakage(63)", x.leakage(63), 1);
        due("threshold()", x.threshold(), 5);
    }

    private static void decodingWithACodeOfWordLengthSeven() {
        example = "2";
        CosetCoder x = new CosetCoder();
        due("setLength(7)", x.setLength(7), 6);
        due("addRow(85, 1)", x.addRow(85, 1), 0);
        due("addRow(102, 1)", x.addRow(102, 1), 1);
        due("addRow(120, 1)", x.addRow(120, 1), 2);
        due("addRow(1, 0)", x.addRow(1, 0), 3);
        due("codewords()", x.codewords(), 16);
        due("decode(127)", x.decode(127), 1);
        due("distance(127)", x.distance(127), 0);
        due("weakness()", x.weakness(), 2);
    }

    private static void encodingWithSeveralCodewords() {
        example = "3";
        CosetCoder x = new CosetCoder();
        due("setLength(2)", x.setLength(2), 6);
        due("addRow(3, 0)", x.addRow(3, 0), 0);
        due("decode(1)", x.decode(1), 1);
        due("encode(1, 1)", x.encode(1, 1), 2);
        due("encode(1, 2)", x.encode(1, 2), -3);
    }

    private static void rowsThatDependOnOthers() {
        example = "4";
        CosetCoder x = new CosetCoder();
        due("addRow(7, 0)", x.addRow(7, 0), 0);
        due("addRow(56, 0)", x.addRow(56, 0), 1);
        due("addRow(63, 0)", x.addRow(63, 0), 2);
        due("rank(0)", x.rank(0), 2);
        due("removeDependentRows()", x.removeDependentRows(), 1);
        due("messages()", x.messages(), 4);
    }

    private static void errors() {
        example = "5";
        CosetCoder x = new CosetCoder();
        due("addRow(0, 0)", x.addRow(0, 0), -2);
        due("addRow(64, 0)", x.addRow(64, 0), -2);
        due("undo()", x.undo(), -6);
    }

    public static void main(String[] args) {
        oneMessageBitThatFivePositionsDoNotBetray();
        decodingWithACodeOfWordLengthSeven();
        encodingWithSeveralCodewords();
        rowsThatDependOnOthers();
        errors();
        if (wrong > 0) {
            System.exit(1);
        }
    }
}
