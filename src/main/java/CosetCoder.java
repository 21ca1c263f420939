/**
 * Coset coding for the wiretap channel of type II: messages are syndromes of binary words, an
 * eavesdropper reads some positions of the word, and the coder computes what the eavesdropper
 * learns, which sets of positions are safe, and how received words are decoded.
 */
public final class CosetCoder {
    public static final int OUT_OF_RANGE = -2;
    public static final int MISSING = -3;
    public static final int FULL = -4;
    public static final int AMBIGUOUS = -5;
    public static final int NOTHING_SAVED = -6;
    public static final int NONE = -1;

    private static final int START_LENGTH = 6;
    private static final int MAX_LENGTH = 8;
    private static final int MAX_ROWS = 6;
    private static final int MAX_SAVED = 4;
    private static final int MESSAGE_LIMIT = 1 << MAX_ROWS;
    private static final int ERROR_CODES = 5;
    private static final int KIND_MESSAGE = 0;
    private static final int KIND_CHECK = 1;
    private static final int KIND_ALL = 2;

    private final State state;
    private final State[] saved;
    private int savedCount;
    private final int[] errors;
    private final Basis basis;

    public CosetCoder() {
        state = new State();
        saved = new State[MAX_SAVED];
        for (int i = 0; i < MAX_SAVED; i++) {
            saved[i] = new State();
        }
        savedCount = 0;
        errors = new int[ERROR_CODES];
        basis = new Basis();
    }

    // ---- rows

    public int setLength(int n) {
        if (n < 1 || n > MAX_LENGTH) {
            return fail(OUT_OF_RANGE);
        }
        saveState();
        int previous = state.length;
        state.length = n;
        state.size = 0;
        return previous;
    }

    public int addRow(int row, int check) {
        if (row == 0 || !isWord(row) || check < 0 || check > 1) {
            return fail(OUT_OF_RANGE);
        }
        if (state.size >= MAX_ROWS) {
            return fail(FULL);
        }
        saveState();
        state.put(state.size, row, check == 1);
        state.size++;
        return state.size - 1;
    }

    public int removeRow(int index) {
        if (!isRowNumber(index)) {
            return fail(OUT_OF_RANGE);
        }
        saveState();
        for (int i = index + 1; i < state.size; i++) {
            state.put(i - 1, state.words[i], state.checks[i]);
        }
        state.size--;
        return state.size;
    }

    public int removeDependentRows() {
        saveState();
        basis.clear();
        int before = state.size;
        int kept = 0;
        for (int i = 0; i < before; i++) {
            if (basis.extend(state.words[i])) {
                state.put(kept, state.words[i], state.checks[i]);
                kept++;
            }
        }
        state.size = kept;
        return before - kept;
    }

    public int row(int index) {
        if (!isRowNumber(index)) {
            return fail(OUT_OF_RANGE);
        }
        return state.words[index];
    }

    public int isCheck(int index) {
        if (!isRowNumber(index)) {
            return fail(OUT_OF_RANGE);
        }
        return state.checks[index] ? 1 : 0;
    }

    public int rank(int kind) {
        if (kind < KIND_MESSAGE || kind > KIND_ALL) {
            return fail(OUT_OF_RANGE);
        }
        return rankOfKind(kind);
    }

    // ---- words

    public int message(int word) {
        if (!isWord(word)) {
            return fail(OUT_OF_RANGE);
        }
        return syndrome(word, false);
    }

    public int checkValue(int word) {
        if (!isWord(word)) {
            return fail(OUT_OF_RANGE);
        }
        return syndrome(word, true);
    }

    public int codewords() {
        // Each independent check row halves the words that are left.
        return 1 << (state.length - rankOfKind(KIND_CHECK));
    }

    public int messages() {
        return 1 << hiddenBits(allPositions());
    }

    public int choices(int message) {
        if (!isMessage(message)) {
            return fail(OUT_OF_RANGE);
        }
        int count = 0;
        for (int word = 0; word <= allPositions(); word++) {
            if (isCodewordOf(word, message)) {
                count++;
            }
        }
        return count;
    }

    public int encode(int message, int index) {
        if (!isMessage(message) || index < 0) {
            return fail(OUT_OF_RANGE);
        }
        int before = 0;
        for (int word = 0; word <= allPositions(); word++) {
            if (isCodewordOf(word, message)) {
                if (before == index) {
                    return word;
                }
                before++;
            }
        }
        return fail(MISSING);
    }

    public int decode(int word) {
        if (!isWord(word)) {
            return fail(OUT_OF_RANGE);
        }
        int least = leastDistance(word);
        int found = NONE;
        for (int x = 0; x <= allPositions(); x++) {
            if (Integer.bitCount(x ^ word) == least && isCodeword(x)) {
                int own = syndrome(x, false);
                if (found != NONE && found != own) {
                    return fail(AMBIGUOUS);
                }
                found = own;
            }
        }
        return found;
    }

    public int distance(int word) {
        if (!isWord(word)) {
            return fail(OUT_OF_RANGE);
        }
        return leastDistance(word);
    }

    public int weakness() {
        return leastFatalErrors();
    }

    // ---- the eavesdropper

    public int leakage(int set) {
        if (!isWord(set)) {
            return fail(OUT_OF_RANGE);
        }
        return leakedBits(set);
    }

    public int worstLeakage(int size) {
        if (!isSize(size)) {
            return fail(OUT_OF_RANGE);
        }
        return leakedBits(leakiestSet(size));
    }

    public int worstSet(int size) {
        if (!isSize(size)) {
            return fail(OUT_OF_RANGE);
        }
        return leakiestSet(size);
    }

    public int threshold() {
        int least = leastSizeLeaking(1);
        return least == NONE ? state.length : least - 1;
    }

    public int leastSize(int bits) {
        if (bits < 1 || bits > MAX_ROWS) {
            return fail(OUT_OF_RANGE);
        }
        return leastSizeLeaking(bits);
    }

    public int possibleMessages(int set, int bits) {
        if (!isObservation(set, bits)) {
            return fail(OUT_OF_RANGE);
        }
        return Long.bitCount(messagesFitting(set, bits));
    }

    public int possibleMessage(int set, int bits, int index) {
        if (!isObservation(set, bits) || index < 0) {
            return fail(OUT_OF_RANGE);
        }
        long fitting = messagesFitting(set, bits);
        int before = 0;
        for (int message = 0; message < MESSAGE_LIMIT; message++) {
            if (((fitting >>> message) & 1L) != 0L) {
                if (before == index) {
                    return message;
                }
                before++;
            }
        }
        return fail(MISSING);
    }

    public int knownCombinations(int set) {
        if (!isWord(set)) {
            return fail(OUT_OF_RANGE);
        }
        // Codewords that agree on the set differ by a codeword that is 0 there. The messages of
        // those form a space of hiddenBits dimensions, and the combinations that are constant
        // are the ones that vanish on it; u = 0 is one of these and is not asked for.
        int unknown = hiddenBits(allPositions() & ~set);
        return (1 << (messageRows() - unknown)) - 1;
    }

    // ---- state

    public int undo() {
        if (savedCount <= 0) {
            return fail(NOTHING_SAVED);
        }
        savedCount--;
        state.copyFrom(saved[savedCount]);
        return savedCount;
    }

    public int errorCount(int code) {
        if (code < NOTHING_SAVED || code > OUT_OF_RANGE) {
            return fail(OUT_OF_RANGE);
        }
        return errors[OUT_OF_RANGE - code];
    }

    public long digest() {
        long h = 2687L;
        for (int i = 0; i < ERROR_CODES; i++) {
            h = mix(h, errors[i]);
        }
        h = mix(h, state.length);
        h = mix(h, state.size);
        for (int i = 0; i < state.size; i++) {
            h = mix(h, state.words[i]);
            h = mix(h, state.checks[i] ? 1 : 0);
        }
        for (int kind = KIND_MESSAGE; kind <= KIND_ALL; kind++) {
            h = mix(h, rankOfKind(kind));
        }
        h = mix(h, codewords());
        h = mix(h, messages());
        h = mix(h, threshold());
        h = mix(h, weakness());
        for (int size = 0; size <= state.length; size++) {
            int worst = leakiestSet(size);
            h = mix(h, leakedBits(worst));
            h = mix(h, worst);
        }
        return mix(h, savedCount);
    }

    // ---- inside

    private static long mix(long h, int value) {
        return 31L * h + value;
    }

    private int fail(int code) {
        int slot = OUT_OF_RANGE - code;
        if (slot >= 0 && slot < ERROR_CODES) {
            errors[slot]++;
        }
        return code;
    }

    private void saveState() {
        if (savedCount >= MAX_SAVED) {
            dropOldest();
        }
        saved[savedCount].copyFrom(state);
        savedCount++;
    }

    private void dropOldest() {
        // The oldest object goes to the end, to be written anew: no call makes objects.
        State oldest = saved[0];
        for (int i = 1; i < MAX_SAVED; i++) {
            saved[i - 1] = saved[i];
        }
        saved[MAX_SAVED - 1] = oldest;
        savedCount = MAX_SAVED - 1;
    }

    /** The set of all positions, which is the greatest word too. */
    private int allPositions() {
        return (1 << state.length) - 1;
    }

    private boolean isWord(int word) {
        return word >= 0 && word <= allPositions();
    }

    private boolean isRowNumber(int index) {
        return index >= 0 && index < state.size;
    }

    private boolean isSize(int size) {
        return size >= 0 && size <= state.length;
    }

    private boolean isObservation(int set, int bits) {
        return isWord(set) && isWord(bits) && (bits & set) == bits;
    }

    private static boolean isMessage(int message) {
        return message >= 0 && message < MESSAGE_LIMIT;
    }

    private int messageRows() {
        int count = 0;
        for (int i = 0; i < state.size; i++) {
            if (!state.checks[i]) {
                count++;
            }
        }
        return count;
    }

    /** The syndrome bits of the check rows or of the message rows, as one number. */
    private int syndrome(int word, boolean ofChecks) {
        int bits = 0;
        int k = 0;
        for (int i = 0; i < state.size; i++) {
            if (state.checks[i] == ofChecks) {
                bits |= (Integer.bitCount(state.words[i] & word) & 1) << k;
                k++;
            }
        }
        return bits;
    }

    private boolean isCodeword(int word) {
        return syndrome(word, true) == 0;
    }

    private boolean isCodewordOf(int word, int message) {
        return isCodeword(word) && syndrome(word, false) == message;
    }

    private int leastDistance(int word) {
        // The word 0 is always a codeword.
        int least = Integer.bitCount(word);
        for (int x = 0; x <= allPositions(); x++) {
            int apart = Integer.bitCount(x ^ word);
            if (apart < least && isCodeword(x)) {
                least = apart;
            }
        }
        return least;
    }

    /**
     * Let w be the least weight of a codeword whose message is not 0, that is the least distance
     * of two codewords with different messages. With fewer than w/2 errors, each codeword of
     * another message is farther away than the one that was sent, so decoding is right. And
     * ceil(w/2) errors towards such a nearest codeword c are fatal: the word y is then
     * floor(w/2) away from c, so a codeword with the sent message, being at least w away from c,
     * is at least ceil(w/2) away from y, and cannot win.
     */
    private int leastFatalErrors() {
        int least = MAX_LENGTH + 1;
        for (int x = 1; x <= allPositions(); x++) {
            int weight = Integer.bitCount(x);
            if (weight < least && isCodeword(x) && syndrome(x, false) != 0) {
                least = weight;
            }
        }
        return least > MAX_LENGTH ? NONE : (least + 1) / 2;
    }

    private int rankOfKind(int kind) {
        basis.clear();
        int rank = 0;
        if (kind != KIND_CHECK) {
            rank += extendBasis(false, allPositions());
        }
        if (kind != KIND_MESSAGE) {
            rank += extendBasis(true, allPositions());
        }
        return rank;
    }

    /** Adds the rows of one sort, restricted to the positions, and tells by how much the rank rose. */
    private int extendBasis(boolean withChecks, int positions) {
        int risen = 0;
        for (int i = 0; i < state.size; i++) {
            if (state.checks[i] == withChecks && basis.extend(state.words[i] & positions)) {
                risen++;
            }
        }
        return risen;
    }

    /**
     * The rank of all rows less the rank of the check rows, both restricted to the positions: the
     * dimension of the space of messages of those codewords that are 0 at all other positions,
     * and so the bits of the message that stay open to one who reads just these others.
     */
    private int hiddenBits(int unread) {
        basis.clear();
        extendBasis(true, unread);
        return extendBasis(false, unread);
    }

    /** The document's lost(all rows) - lost(the check rows), with its four ranks sorted by set. */
    private int leakedBits(int set) {
        return hiddenBits(allPositions()) - hiddenBits(allPositions() & ~set);
    }

    private int leakiestSet(int size) {
        int all = allPositions();
        int worst = 0;
        int leastHidden = MAX_ROWS + 1;
        for (int set = 0; set <= all; set++) {
            if (Integer.bitCount(set) == size) {
                int hidden = hiddenBits(all & ~set);
                if (hidden < leastHidden) {
                    leastHidden = hidden;
                    worst = set;
                }
            }
        }
        return worst;
    }

    private int leastSizeLeaking(int bits) {
        int all = allPositions();
        int mostHidden = hiddenBits(all) - bits;
        int least = MAX_LENGTH + 1;
        for (int set = 0; set <= all; set++) {
            int size = Integer.bitCount(set);
            if (size < least && hiddenBits(all & ~set) <= mostHidden) {
                least = size;
            }
        }
        return least > MAX_LENGTH ? NONE : least;
    }

    /** The possible messages of an observation as a set of bits; a message has at most 6 bits. */
    private long messagesFitting(int set, int bits) {
        long fitting = 0L;
        for (int x = 0; x <= allPositions(); x++) {
            if ((x & set) == bits && isCodeword(x)) {
                fitting |= 1L << syndrome(x, false);
            }
        }
        return fitting;
    }

    /** What undo brings back: the word length and the rows. */
    private static final class State {
        private int length = START_LENGTH;
        private int size = 0;
        private final int[] words = new int[MAX_ROWS];
        private final boolean[] checks = new boolean[MAX_ROWS];

        private void put(int index, int word, boolean check) {
            if (index >= 0 && index < MAX_ROWS) {
                words[index] = word;
                checks[index] = check;
            }
        }

        private void copyFrom(State other) {
            length = other.length;
            size = other.size;
            for (int i = 0; i < MAX_ROWS; i++) {
                words[i] = other.words[i];
                checks[i] = other.checks[i];
            }
        }
    }

    /** Linearly independent words, each without the leading bits of those in front of it. */
    private static final class Basis {
        private final int[] vectors = new int[MAX_ROWS];
        private int count = 0;

        private void clear() {
            count = 0;
        }

        /** Takes the word in if it is independent of those that are here, and tells whether it was. */
        private boolean extend(int word) {
            int rest = word;
            for (int i = 0; i < count; i++) {
                // The lesser of the two is the one without the leading bit of the vector.
                rest = Math.min(rest, rest ^ vectors[i]);
            }
            if (rest == 0 || count >= MAX_ROWS) {
                return false;
            }
            vectors[count] = rest;
            count++;
            return true;
        }
    }
}
