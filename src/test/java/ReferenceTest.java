import java.util.ArrayList;
import java.util.Arrays;
import java.util.HashSet;
import java.util.List;
import java.util.Random;
import java.util.Set;
import java.util.TreeSet;

/**
 * Long runs of calls, each answered by CosetCoder and by a model that follows the document's words
 * with no regard for speed: it searches where CosetCoder reckons with ranks.
 */
public final class ReferenceTest {
    private static final int RUNS = 120;
    private static final int CALLS = 511; // and the digest at the end is the 512th

    private record Row(int word, boolean check) { }

    private record Saved(int length, List<Row> rows) { }

    private static final class Model {
        private int length = 6;
        private List<Row> rows = new ArrayList<>();
        private final List<Saved> saved = new ArrayList<>();
        private final int[] counters = new int[5];

        private int error(int code) {
            counters[-2 - code]++;
            return code;
        }

        private void save() {
            saved.add(new Saved(length, new ArrayList<>(rows)));
            if (saved.size() > 4) {
                saved.remove(0);
            }
        }

        private int limit() {
            return 1 << length;
        }

        private boolean noWord(int word) {
            return word < 0 || word >= limit();
        }

        private boolean noRow(int index) {
            return index < 0 || index >= rows.size();
        }

        private List<Integer> words(boolean messages, boolean checks) {
            List<Integer> list = new ArrayList<>();
            for (Row row : rows) {
                if (row.check() ? checks : messages) {
                    list.add(row.word());
                }
            }
            return list;
        }

        /** The greatest number of words that are chosen so that no XOR of some of them is 0. */
        private static int rankOf(List<Integer> list, int set) {
            int most = 0;
            for (int chosen = 0; chosen < 1 << list.size(); chosen++) {
                if (Integer.bitCount(chosen) > most && independent(list, set, chosen)) {
                    most = Integer.bitCount(chosen);
                }
            }
            return most;
        }

        private static boolean independent(List<Integer> list, int set, int chosen) {
            for (int part = chosen; part > 0; part = (part - 1) & chosen) {
                if (xorOf(list, set, part) == 0) {
                    return false;
                }
            }
            return true;
        }

        private static int xorOf(List<Integer> list, int set, int part) {
            int sum = 0;
            for (int i = 0; i < list.size(); i++) {
                if ((part >> i & 1) == 1) {
                    sum ^= list.get(i) & set;
                }
            }
            return sum;
        }

        private int syndromeOf(int word, boolean check) {
            int value = 0;
            int k = 0;
            for (int row : words(!check, check)) {
                value += Integer.bitCount(row & word) % 2 << k++;
            }
            return value;
        }

        private List<Integer> code() {
            List<Integer> list = new ArrayList<>();
            for (int x = 0; x < limit(); x++) {
                if (syndromeOf(x, true) == 0) {
                    list.add(x);
                }
            }
            return list;
        }

        private List<Integer> codeOf(int message) {
            List<Integer> list = code();
            list.removeIf(x -> syndromeOf(x, false) != message);
            return list;
        }

        private int[] messageTable() {
            int[] table = new int[limit()];
            for (int x = 0; x < limit(); x++) {
                table[x] = syndromeOf(x, false);
            }
            return table;
        }

        private static int nearest(List<Integer> code, int y) {
            int least = 99;
            for (int x : code) {
                least = Math.min(least, Integer.bitCount(x ^ y));
            }
            return least;
        }

        private static int decoded(List<Integer> code, int[] messageOf, int y) {
            int least = nearest(code, y);
            Set<Integer> found = new HashSet<>();
            for (int x : code) {
                if (Integer.bitCount(x ^ y) == least) {
                    found.add(messageOf[x]);
                }
            }
            return found.size() == 1 ? found.iterator().next() : -5;
        }

        private int weaknessOf() {
            List<Integer> code = code();
            int[] messageOf = messageTable();
            int least = 99;
            for (int y = 0; y < limit(); y++) {
                int got = decoded(code, messageOf, y);
                for (int x : code) {
                    if (got != messageOf[x]) {
                        least = Math.min(least, Integer.bitCount(x ^ y));
                    }
                }
            }
            return least == 99 ? -1 : least;
        }

        private int lost(List<Integer> list, int set) {
            return rankOf(list, limit() - 1) - rankOf(list, limit() - 1 - set);
        }

        private int leak(int set) {
            return lost(words(true, true), set) - lost(words(false, true), set);
        }

        private int[] leaks() {
            int[] table = new int[limit()];
            for (int set = 0; set < limit(); set++) {
                table[set] = leak(set);
            }
            return table;
        }

        private static int worst(int[] leaks, int size) {
            int found = -1;
            for (int set = 0; set < leaks.length; set++) {
                if (Integer.bitCount(set) == size && (found < 0 || leaks[set] > leaks[found])) {
                    found = set;
                }
            }
            return found;
        }

        private int thresholdOf(int[] leaks) {
            int t = length;
            for (int set = 0; set < leaks.length; set++) {
                if (leaks[set] != 0) {
                    t = Math.min(t, Integer.bitCount(set) - 1);
                }
            }
            return t;
        }

        private TreeSet<Integer> fitting(int set, int bits) {
            TreeSet<Integer> found = new TreeSet<>();
            for (int x : code()) {
                if ((x & set) == bits) {
                    found.add(syndromeOf(x, false));
                }
            }
            return found;
        }

        private int known(int set) {
            int m = words(true, false).size();
            List<Integer> code = code();
            int[] messageOf = messageTable();
            int count = 0;
            for (int u = 1; u < 1 << m; u++) {
                int[] parityOf = new int[limit()];
                Arrays.fill(parityOf, -1);
                boolean same = true;
                for (int x : code) {
                    int parity = Integer.bitCount(u & messageOf[x]) % 2;
                    same = same && (parityOf[x & set] == -1 || parityOf[x & set] == parity);
                    parityOf[x & set] = parity;
                }
                count += same ? 1 : 0;
            }
            return count;
        }

        private int removeDependent() {
            save();
            List<Integer> front = new ArrayList<>();
            List<Row> kept = new ArrayList<>();
            for (Row row : rows) {
                boolean dependent = false;
                for (int part = 1; part < 1 << front.size(); part++) {
                    dependent = dependent || xorOf(front, -1, part) == row.word();
                }
                if (!dependent) {
                    front.add(row.word());
                    kept.add(row);
                }
            }
            int removed = rows.size() - kept.size();
            rows = kept;
            return removed;
        }

        private long digest() {
            List<Integer> v = new ArrayList<>();
            for (int counter : counters) {
                v.add(counter);
            }
            v.add(length);
            v.add(rows.size());
            for (Row row : rows) {
                v.add(row.word());
                v.add(row.check() ? 1 : 0);
            }
            v.add(rankOf(words(true, false), -1));
            v.add(rankOf(words(false, true), -1));
            v.add(rankOf(words(true, true), -1));
            v.add(code().size());
            v.add(fitting(0, 0).size());
            int[] leaks = leaks();
            v.add(thresholdOf(leaks));
            v.add(weaknessOf());
            for (int size = 0; size <= length; size++) {
                v.add(leaks[worst(leaks, size)]);
                v.add(worst(leaks, size));
            }
            v.add(saved.size());
            long h = 2687;
            for (int value : v) {
                h = 31 * h + value;
            }
            return h;
        }

        private long rowCall(int method, int a, int b) {
            switch (method) {
                case 0:
                    if (a < 1 || a > 8) {
                        return error(-2);
                    }
                    save();
                    int previous = length;
                    length = a;
                    rows = new ArrayList<>();
                    return previous;
                case 1:
                    if (a == 0 || noWord(a) || b != 0 && b != 1) {
                        return error(-2);
                    }
                    if (rows.size() == 6) {
                        return error(-4);
                    }
                    save();
                    rows.add(new Row(a, b == 1));
                    return rows.size() - 1;
                case 2:
                    if (noRow(a)) {
                        return error(-2);
                    }
                    save();
                    rows.remove(a);
                    return rows.size();
                case 3:
                    return removeDependent();
                case 4:
                    return noRow(a) ? error(-2) : rows.get(a).word();
                case 5:
                    return noRow(a) ? error(-2) : rows.get(a).check() ? 1 : 0;
                default:
                    return a < 0 || a > 2 ? error(-2) : rankOf(words(a != 1, a != 0), -1);
            }
        }

        private long wordCall(int method, int a, int b) {
            boolean noMessage = a < 0 || a > 63;
            switch (method) {
                case 7:
                    return noWord(a) ? error(-2) : syndromeOf(a, false);
                case 8:
                    return noWord(a) ? error(-2) : syndromeOf(a, true);
                case 9:
                    return code().size();
                case 10:
                    return fitting(0, 0).size();
                case 11:
                    return noMessage ? error(-2) : codeOf(a).size();
                case 12:
                    if (noMessage || b < 0) {
                        return error(-2);
                    }
                    return b >= codeOf(a).size() ? error(-3) : codeOf(a).get(b);
                case 13:
                    if (noWord(a)) {
                        return error(-2);
                    }
                    int got = decoded(code(), messageTable(), a);
                    return got == -5 ? error(-5) : got;
                case 14:
                    return noWord(a) ? error(-2) : nearest(code(), a);
                default:
                    return weaknessOf();
            }
        }

        private long otherCall(int method, int a, int b, int c) {
            boolean noView = noWord(a) || noWord(b) || (a & b) != b;
            switch (method) {
                case 16:
                    return noWord(a) ? error(-2) : leak(a);
                case 17:
                    return a < 0 || a > length ? error(-2) : leak(worst(leaks(), a));
                case 18:
                    return a < 0 || a > length ? error(-2) : worst(leaks(), a);
                case 19:
                    return thresholdOf(leaks());
                case 20:
                    return a < 1 || a > 6 ? error(-2) : leastSizeOf(a);
                case 21:
                    return noView ? error(-2) : fitting(a, b).size();
                case 22:
                    if (noView || c < 0) {
                        return error(-2);
                    }
                    List<Integer> list = new ArrayList<>(fitting(a, b));
                    return c >= list.size() ? error(-3) : list.get(c);
                case 23:
                    return noWord(a) ? error(-2) : known(a);
                case 24:
                    if (saved.isEmpty()) {
                        return error(-6);
                    }
                    Saved last = saved.remove(saved.size() - 1);
                    length = last.length();
                    rows = last.rows();
                    return saved.size();
                case 25:
                    return a < -6 || a > -2 ? error(-2) : counters[-2 - a];
                default:
                    return digest();
            }
        }

        private int leastSizeOf(int bits) {
            int[] leaks = leaks();
            for (int size = 0; size <= length; size++) {
                if (leaks[worst(leaks, size)] >= bits) {
                    return size;
                }
            }
            return -1;
        }

        private long call(int method, int a, int b, int c) {
            if (method < 7) {
                return rowCall(method, a, b);
            }
            return method < 16 ? wordCall(method, a, b) : otherCall(method, a, b, c);
        }
    }

    private static final String[] NAMES = {
        "setLength", "addRow", "removeRow", "removeDependentRows", "row", "isCheck", "rank",
        "message", "checkValue", "codewords", "messages", "choices", "encode", "decode", "distance", "weakness",
        "leakage", "worstLeakage", "worstSet", "threshold", "leastSize", "possibleMessages", "possibleMessage",
        "knownCombinations", "undo", "errorCount", "digest",
    };

    private static long call(CosetCoder x, int method, int a, int b, int c) {
        switch (method) {
            case 0: return x.setLength(a);
            case 1: return x.addRow(a, b);
            case 2: return x.removeRow(a);
            case 3: return x.removeDependentRows();
            case 4: return x.row(a);
            case 5: return x.isCheck(a);
            case 6: return x.rank(a);
            case 7: return x.message(a);
            case 8: return x.checkValue(a);
            case 9: return x.codewords();
            case 10: return x.messages();
            case 11: return x.choices(a);
            case 12: return x.encode(a, b);
            case 13: return x.decode(a);
            case 14: return x.distance(a);
            case 15: return x.weakness();
            case 16: return x.leakage(a);
            case 17: return x.worstLeakage(a);
            case 18: return x.worstSet(a);
            case 19: return x.threshold();
            case 20: return x.leastSize(a);
            case 21: return x.possibleMessages(a, b);
            case 22: return x.possibleMessage(a, b, c);
            case 23: return x.knownCombinations(a);
            case 24: return x.undo();
            case 25: return x.errorCount(a);
            default: return x.digest();
        }
    }

    private static int pickMethod(Random random) {
        int dice = random.nextInt(100);
        if (dice < 30) {
            return 1;
        }
        // These take the rows away, and would leave hardly any if they came as often as the others.
        if (dice < 34) {
            return random.nextInt(4) == 0 ? 0 : dice < 32 ? 2 : 24;
        }
        return dice < 36 ? 3 : 4 + random.nextInt(NAMES.length - 4);
    }

    private static int pickNumber(Random random, int least, int most) {
        switch (random.nextInt(24)) {
            case 0: return least - 1;
            case 1: return most + 1;
            case 2: return random.nextInt();
            default: return least + random.nextInt(most - least + 1);
        }
    }

    private static int pickFirst(Random random, int method, Model model) {
        switch (method) {
            case 0: return pickNumber(random, 1, 8);
            case 1: return pickNumber(random, 1, model.limit() - 1);
            case 2: case 4: case 5: return pickNumber(random, 0, Math.max(0, model.rows.size() - 1));
            case 6: return pickNumber(random, 0, 2);
            case 11: case 12: return random.nextInt(3) > 0 ? random.nextInt(8) : pickNumber(random, 0, 63);
            case 17: case 18: return pickNumber(random, 0, model.length);
            case 20: return pickNumber(random, 1, 6);
            case 25: return pickNumber(random, -6, -2);
            default: return pickNumber(random, 0, model.limit() - 1);
        }
    }

    private static int pickSecond(Random random, int method, Model model, int first) {
        if (method == 1) {
            return random.nextInt(20) == 0 ? pickNumber(random, 0, 1) : random.nextInt(2);
        }
        if (method == 21 || method == 22) {
            int bits = pickNumber(random, 0, model.limit() - 1);
            return random.nextInt(5) == 0 ? bits : bits & first;
        }
        return pickNumber(random, 0, random.nextBoolean() ? 3 : 63);
    }

    /** Tells whether all answers of the run were right; a wrong one ends it, for the states may differ. */
    private static boolean run(int seed) {
        Random random = new Random(seed);
        CosetCoder x = new CosetCoder();
        Model model = new Model();
        for (int i = 0; i < CALLS; i++) {
            int method = pickMethod(random);
            int a = pickFirst(random, method, model);
            int b = pickSecond(random, method, model, a);
            int c = pickNumber(random, 0, 4);
            long want = model.call(method, a, b, c);
            long got = call(x, method, a, b, c);
            if (got != want) {
                System.out.println("run " + seed + ", call " + i + ": " + NAMES[method] + " with " + a + ", " + b
                    + ", " + c + " answered " + got + ", due is " + want + "; length " + model.length
                    + ", " + model.rows);
                return false;
            }
        }
        long want = model.digest();
        if (x.digest() != want) {
            System.out.println("run " + seed + ": digest at the end, due is " + want);
            return false;
        }
        return true;
    }

    public static void main(String[] args) {
        boolean right = true;
        for (int seed = 1; seed <= RUNS; seed++) {
            right = run(seed) && right;
        }
        if (!right) {
            System.exit(1);
        }
    }
}
