/** Partitions of a few points into blocks, their order, chains, and crossings. */
public final class BlockPartitions {
    public static final int BAD_ARG = -1000000;
    public static final int NONE = -1000001;

    private static final int MOST_POINTS = 7;
    private static final int BOTH_ELEMENTS = 14;
    private static final int DIGIT_BITS = 3;
    private static final int DIGIT_MASK = 7;

    /** Block numbers are at most 6, so no block bears this label. */
    private static final int FRESH_LABEL = 7;

    /** The table of endings has a row for 0 to 7 blocks, each row with 0 to 7 points. */
    private static final int ENDINGS_ROW = 8;
    private static final int ENDINGS_CELLS = 64;

    private final int n;

    /** The number of point i's block in element e stands at e * MOST_POINTS + i. */
    private final int[] number = new int[BOTH_ELEMENTS];

    /** A partition in the making: points with equal labels share a block; labels are in no order. */
    private final int[] label = new int[MOST_POINTS];

    /** At used * ENDINGS_ROW + rest: in how many ways the last rest points can follow used blocks. */
    private final int[] endings = new int[ENDINGS_CELLS];

    public BlockPartitions(int points) {
        n = points < 1 ? 1 : points > MOST_POINTS ? MOST_POINTS : points;
        fillEndings();
        for (int i = 0; i < n; i++) {
            number[i] = i;
            number[MOST_POINTS + i] = i;
        }
    }

    public int put(int e, int code) {
        if (!isElement(e) || !isCode(code)) {
            return BAD_ARG;
        }
        for (int i = 0; i < n; i++) {
            label[i] = digit(code, i);
        }
        return takeLabels(e);
    }

    public int merge(int e, int i, int j) {
        if (!isElement(e) || !isPoint(i) || !isPoint(j)) {
            return BAD_ARG;
        }
        giveLabels(e);
        mergeLabels(i, j);
        return takeLabels(e);
    }

    public int move(int e, int i, int j) {
        if (!isElement(e) || !isPoint(i) || !isPoint(j)) {
            return BAD_ARG;
        }
        giveLabels(e);
        label[i] = i == j ? FRESH_LABEL : label[j];
        return takeLabels(e);
    }

    public int turn(int e) {
        if (!isElement(e)) {
            return BAD_ARG;
        }
        for (int i = 0; i < n; i++) {
            int next = i + 1 < n ? i + 1 : 0;
            label[next] = numberOf(e, i);
        }
        return takeLabels(e);
    }

    public int meet() {
        for (int i = 0; i < n; i++) {
            // One label for each pair of block numbers.
            label[i] = numberOf(0, i) * MOST_POINTS + numberOf(1, i);
        }
        return takeLabels(0);
    }

    public int join() {
        giveLabels(0);
        for (int i = 0; i < n; i++) {
            for (int j = i + 1; j < n; j++) {
                if (together(1, i, j)) {
                    mergeLabels(i, j);
                }
            }
        }
        return takeLabels(0);
    }

    public int uncross(int e) {
        if (!isElement(e)) {
            return BAD_ARG;
        }
        giveLabels(e);
        // What crosses a merged block crossed one of its two parts, so one pass finds every merge.
        for (int i = 0; i < n; i++) {
            for (int j = i + 1; j < n; j++) {
                if (labelsCross(i, j)) {
                    mergeLabels(i, j);
                }
            }
        }
        return takeLabels(e);
    }

    public int complement(int e) {
        if (!isElement(e)) {
            return BAD_ARG;
        }
        if (hasCrossing(e)) {
            return NONE;
        }
        for (int j = 0; j < n; j++) {
            label[j] = leastPartner(e, j);
        }
        return takeLabels(e);
    }

    public int code(int e) {
        if (!isElement(e)) {
            return BAD_ARG;
        }
        int sum = 0;
        for (int i = 0; i < n; i++) {
            sum += numberOf(e, i) << (DIGIT_BITS * i);
        }
        return sum;
    }

    public int blocks(int e) {
        if (!isElement(e)) {
            return BAD_ARG;
        }
        return blocksBefore(e, n);
    }

    public int size(int e, int i) {
        if (!isElement(e) || !isPoint(i)) {
            return BAD_ARG;
        }
        int block = numberOf(e, i);
        return pointsIn(e, block);
    }

    public int crosses(int e) {
        if (!isElement(e)) {
            return BAD_ARG;
        }
        return hasCrossing(e) ? 1 : 0;
    }

    public int rank(int e) {
        if (!isElement(e)) {
            return BAD_ARG;
        }
        int before = 0;
        for (int i = 0; i < n; i++) {
            // Each lesser number is that of a block in use, so it leaves as many blocks as there were.
            int used = blocksBefore(e, i);
            before += numberOf(e, i) * endingsOf(used, n - 1 - i);
        }
        return before;
    }

    public int partition(int k) {
        if (k < 0 || k >= endingsOf(0, n)) {
            return NONE;
        }
        int sum = 0;
        int used = 0;
        int left = k;
        for (int i = 0; i < n; i++) {
            int each = endingsOf(used, n - 1 - i);
            int block = 0;
            for (int b = 0; b < used; b++) {
                if (left >= each) {
                    left -= each;
                    block++;
                }
            }
            if (block == used) {
                used++;
            }
            sum += block << (DIGIT_BITS * i);
        }
        return sum;
    }

    public int finer() {
        return isFiner() ? 1 : 0;
    }

    public int interval() {
        if (!isFiner()) {
            return 0;
        }
        int product = 1;
        for (int b = 0; b < n; b++) {
            int parts = partsOf(b);
            product *= endingsOf(0, parts);
        }
        return product;
    }

    public int fullChains() {
        if (!isFiner()) {
            return 0;
        }
        int chains = 1;
        int steps = 0;
        for (int b = 0; b < n; b++) {
            int parts = partsOf(b);
            for (int s = 1; s < parts; s++) {
                // Multiplied over all s, steps / s counts how these steps can lie among the earlier ones.
                steps++;
                chains = chains * steps / s;
                // The step that leaves s of the parts merges two of s + 1.
                chains *= (s + 1) * s / 2;
            }
        }
        return chains;
    }

    public int sign() {
        if (!isFiner()) {
            return 0;
        }
        // The sign is the product over the blocks of (-1)^(parts - 1) (parts - 1)!.
        int product = 1;
        for (int b = 0; b < n; b++) {
            int parts = partsOf(b);
            for (int s = 1; s < parts; s++) {
                product *= -s;
            }
        }
        return product;
    }

    public int uncrossed(int e) {
        if (!isElement(e)) {
            return BAD_ARG;
        }
        if (hasCrossing(e)) {
            return NONE;
        }
        // Parts of blocks that do not cross do not cross either, so each block is divided by itself.
        int product = 1;
        for (int b = 0; b < n; b++) {
            int points = pointsIn(e, b);
            product *= catalan(points);
        }
        return product;
    }

    private void fillEndings() {
        for (int used = 0; used <= MOST_POINTS; used++) {
            endings[used * ENDINGS_ROW] = 1;
        }
        for (int rest = 1; rest <= MOST_POINTS; rest++) {
            for (int used = 0; used + rest <= MOST_POINTS; used++) {
                // The next point goes to one of the used blocks, or opens a new one.
                int old = endings[used * ENDINGS_ROW + rest - 1];
                int opened = endings[(used + 1) * ENDINGS_ROW + rest - 1];
                endings[used * ENDINGS_ROW + rest] = used * old + opened;
            }
        }
    }

    private int endingsOf(int used, int rest) {
        return endings[used * ENDINGS_ROW + rest];
    }

    private boolean isElement(int e) {
        return e == 0 || e == 1;
    }

    private boolean isPoint(int i) {
        return i >= 0 && i < n;
    }

    private boolean isCode(int code) {
        if (code < 0 || code >> (DIGIT_BITS * n) != 0) {
            return false;
        }
        int used = 0;
        for (int i = 0; i < n; i++) {
            int block = digit(code, i);
            if (block > used) {
                return false;
            }
            if (block == used) {
                used++;
            }
        }
        return true;
    }

    private int digit(int code, int i) {
        return code >> (DIGIT_BITS * i) & DIGIT_MASK;
    }

    private int numberOf(int e, int i) {
        return number[e * MOST_POINTS + i];
    }

    private boolean together(int e, int i, int j) {
        return numberOf(e, i) == numberOf(e, j);
    }

    private void giveLabels(int e) {
        for (int i = 0; i < n; i++) {
            label[i] = numberOf(e, i);
        }
    }

    /** Element e becomes the partition of the labels; answers how many blocks it has. */
    private int takeLabels(int e) {
        int used = 0;
        for (int i = 0; i < n; i++) {
            int first = firstAlike(i);
            if (first == i) {
                number[e * MOST_POINTS + i] = used;
                used++;
            } else {
                number[e * MOST_POINTS + i] = numberOf(e, first);
            }
        }
        return used;
    }

    private int firstAlike(int i) {
        for (int first = 0; first < i; first++) {
            if (label[first] == label[i]) {
                return first;
            }
        }
        return i;
    }

    private void mergeLabels(int i, int j) {
        int from = label[j];
        int to = label[i];
        for (int p = 0; p < n; p++) {
            if (label[p] == from) {
                label[p] = to;
            }
        }
    }

    private boolean hasCrossing(int e) {
        giveLabels(e);
        for (int i = 0; i < n; i++) {
            for (int j = i + 1; j < n; j++) {
                if (labelsCross(i, j)) {
                    return true;
                }
            }
        }
        return false;
    }

    /** Whether points i < j are the first two of a crossing's four. */
    private boolean labelsCross(int i, int j) {
        if (label[i] == label[j]) {
            return false;
        }
        for (int k = j + 1; k < n; k++) {
            for (int l = k + 1; l < n; l++) {
                if (label[k] == label[i] && label[l] == label[j]) {
                    return true;
                }
            }
        }
        return false;
    }

    /**
     * The least point that shares the complement's block with point j. Points i < j can share one
     * just if no block of element e lies partly in i + 1 to j; these pairs never cross each other.
     */
    private int leastPartner(int e, int j) {
        for (int i = 0; i < j; i++) {
            if (isClosed(e, i + 1, j)) {
                return i;
            }
        }
        return j;
    }

    private boolean isClosed(int e, int from, int to) {
        for (int inside = from; inside <= to; inside++) {
            for (int p = 0; p < n; p++) {
                boolean outside = p < from || p > to;
                if (outside && together(e, inside, p)) {
                    return false;
                }
            }
        }
        return true;
    }

    /** How many blocks have a point before point end: the numbers in use go up from 0 without a gap. */
    private int blocksBefore(int e, int end) {
        int used = 0;
        for (int i = 0; i < end; i++) {
            if (numberOf(e, i) == used) {
                used++;
            }
        }
        return used;
    }

    private int pointsIn(int e, int block) {
        int points = 0;
        for (int i = 0; i < n; i++) {
            if (numberOf(e, i) == block) {
                points++;
            }
        }
        return points;
    }

    private boolean isFiner() {
        for (int i = 0; i < n; i++) {
            for (int j = i + 1; j < n; j++) {
                if (together(0, i, j) && !together(1, i, j)) {
                    return false;
                }
            }
        }
        return true;
    }

    /** How many blocks of element 0 have their least point in this block of element 1. */
    private int partsOf(int block) {
        int parts = 0;
        int used = 0;
        for (int i = 0; i < n; i++) {
            if (numberOf(0, i) == used) {
                used++;
                if (numberOf(1, i) == block) {
                    parts++;
                }
            }
        }
        return parts;
    }

    /** How many partitions of so many points in a row have no crossing. */
    private int catalan(int points) {
        int ways = 1;
        for (int s = 0; s < points; s++) {
            ways = ways * 2 * (2 * s + 1) / (s + 2);
        }
        return ways;
    }
}
