import java.util.Arrays;
import java.util.BitSet;
import java.util.List;
import java.util.TreeMap;

/**
 * Compares the class with the document's words, by search through all partitions of 1 to 7 points.
 * A partition is held as its points' block numbers, and named by its place in their order.
 */
public final class DefinitionTest {
    /** Objects are promised for 512 calls only, so each is thrown away well before. */
    private static final int CALLS_OF_ONE = 400;

    private final int n;
    private final List<int[]> all;
    private final TreeMap<Integer, Integer> placeOfCode = new TreeMap<>();
    private final int[] codes;
    private final int[] blocks;
    private final boolean[] crossing;
    /** coarser[p] has the place q if p is finer than q; finer[q] has the place p then. */
    private final BitSet[] coarser;
    private final BitSet[] finer;
    /** steps[p] has the place q if p is finer than q and nothing else lies between them. */
    private final BitSet[] steps;

    private BlockPartitions object;
    private int calls;

    public static void main(String[] args) {
        for (int n = 1; n <= 7; n++) {
            DefinitionTest test = new DefinitionTest(n);
            test.everyCode();
            test.everyPartition();
            test.everyChange();
            test.everyPair();
        }
        Due.end();
    }

    private DefinitionTest(int n) {
        this.n = n;
        all = Reference.all(n);
        int many = all.size();
        codes = new int[many];
        blocks = new int[many];
        crossing = new boolean[many];
        coarser = new BitSet[many];
        finer = new BitSet[many];
        steps = new BitSet[many];
        for (int p = 0; p < many; p++) {
            codes[p] = Due.code(all.get(p));
            placeOfCode.put(codes[p], p);
            blocks[p] = Reference.blocks(all.get(p));
            crossing[p] = Reference.isCrossing(all.get(p));
            coarser[p] = new BitSet();
            finer[p] = new BitSet();
            steps[p] = new BitSet();
        }
        listOrder();
    }

    private void listOrder() {
        int many = all.size();
        for (int p = 0; p < many; p++) {
            for (int q = 0; q < many; q++) {
                if (Reference.isFiner(all.get(p), all.get(q))) {
                    coarser[p].set(q);
                    finer[q].set(p);
                }
            }
        }
        for (int p = 0; p < many; p++) {
            for (int q = 0; q < many; q++) {
                steps[p].set(q, between(p, q).cardinality() == 2);
            }
        }
    }

    /** The interval from p to q; empty if p is not finer than q. */
    private BitSet between(int p, int q) {
        BitSet places = (BitSet) coarser[p].clone();
        places.and(finer[q]);
        return places;
    }

    // The document's words

    /** The one partition of these with the most blocks. */
    private int most(BitSet places) {
        int best = -1;
        int ties = 0;
        for (int p = places.nextSetBit(0); p >= 0; p = places.nextSetBit(p + 1)) {
            if (best >= 0 && blocks[p] == blocks[best]) {
                ties++;
            } else if (best < 0 || blocks[p] > blocks[best]) {
                best = p;
                ties = 0;
            }
        }
        Due.due("other partitions with the most blocks", ties, 0);
        return best;
    }

    private int uncrossedPlace(int p) {
        BitSet places = (BitSet) coarser[p].clone();
        for (int q = 0; q < all.size(); q++) {
            if (crossing[q]) {
                places.clear(q);
            }
        }
        return most(places);
    }

    private int complementPlace(int p) {
        int best = -1;
        int ties = 0;
        int[] both = new int[2 * n];
        for (int q = 0; q < all.size(); q++) {
            for (int i = 0; i < n; i++) {
                both[2 * i] = all.get(p)[i];
                both[2 * i + 1] = n + all.get(q)[i];
            }
            if ((best < 0 || blocks[q] <= blocks[best]) && !Reference.isCrossing(both)) {
                ties = best >= 0 && blocks[q] == blocks[best] ? ties + 1 : 0;
                best = q;
            }
        }
        Due.due("other complements with the fewest blocks", ties, 0);
        return best;
    }

    private int uncrossedBelow(int p) {
        int many = 0;
        for (int q = 0; q < all.size(); q++) {
            if (finer[p].get(q) && !crossing[q]) {
                many++;
            }
        }
        return many;
    }

    // Comparing

    /** An object with these two partitions, given by their places. */
    private BlockPartitions with(int p, int q) {
        calls += 20;
        if (object == null || calls > CALLS_OF_ONE) {
            object = new BlockPartitions(n);
            calls = 20;
        }
        object.put(0, codes[p]);
        object.put(1, codes[q]);
        return object;
    }

    private void changed(String call, int e, int answer, int p, int other) {
        String text = n + " points, " + call;
        Due.due(text, answer, blocks[p]);
        Due.due(text + ", code", object.code(e), codes[p]);
        Due.due(text + ", code of the other element", object.code(1 - e), codes[other]);
    }

    private void everyCode() {
        int beyond = 1 << (3 * n);
        BlockPartitions x = new BlockPartitions(n);
        int left = CALLS_OF_ONE;
        int last = 0;
        x.put(1, 0);
        for (int code = -9; code < beyond + 600; code++) {
            Integer place = placeOfCode.get(code);
            Due.due(n + " points, put(1, " + code + ")", x.put(1, code), place == null ? BlockPartitions.BAD_ARG : blocks[place]);
            last = place == null ? last : code;
            Due.due(n + " points, code(1) after put(1, " + code + ")", x.code(1), last);
            left -= 2;
            if (left <= 0) {
                x = new BlockPartitions(n);
                x.put(1, last);
                left = CALLS_OF_ONE;
            }
        }
    }

    private void everyPartition() {
        for (int p = 0; p < all.size(); p++) {
            for (int e = 0; e < 2; e++) {
                int other = all.size() - 1 - p;
                BlockPartitions x = e == 0 ? with(p, other) : with(other, p);
                String of = n + " points, code " + codes[p] + ", ";
                Due.due(of + "code", x.code(e), codes[p]);
                Due.due(of + "blocks", x.blocks(e), blocks[p]);
                Due.due(of + "crosses", x.crosses(e), crossing[p] ? 1 : 0);
                Due.due(of + "rank", x.rank(e), p);
                Due.due(of + "partition", x.partition(p), codes[p]);
                Due.due(of + "uncrossed", x.uncrossed(e), crossing[p] ? BlockPartitions.NONE : uncrossedBelow(p));
                for (int i = 0; i < n; i++) {
                    int number = all.get(p)[i];
                    long size = Arrays.stream(all.get(p)).filter(alike -> alike == number).count();
                    Due.due(of + "size of " + i, x.size(e, i), size);
                }
            }
        }
        BlockPartitions x = new BlockPartitions(n);
        for (int k = -200; k < 0; k++) {
            Due.due(n + " points, partition(" + k + ")", x.partition(k), BlockPartitions.NONE);
            Due.due(n + " points, partition beyond", x.partition(all.size() - 1 - k), BlockPartitions.NONE);
        }
    }

    private int placeOf(int[] marks) {
        return placeOfCode.get(Due.code(Reference.numbered(marks)));
    }

    private void everyChange() {
        for (int p = 0; p < all.size(); p++) {
            int other = (p * 5 + 3) % all.size();
            for (int e = 0; e < 2; e++) {
                String of = " of element " + e + ", code " + codes[p];
                int first = e == 0 ? p : other;
                int second = e == 0 ? other : p;
                changed("turn" + of, e, with(first, second).turn(e), turnedPlace(p), other);
                changed("uncross" + of, e, with(first, second).uncross(e), uncrossedPlace(p), other);
                BlockPartitions x = with(first, second);
                if (crossing[p]) {
                    Due.due("complement" + of, x.complement(e), BlockPartitions.NONE);
                    Due.due("code after complement" + of, x.code(e), codes[p]);
                } else {
                    changed("complement" + of, e, x.complement(e), complementPlace(p), other);
                }
                for (int i = 0; i < n; i++) {
                    for (int j = 0; j < n; j++) {
                        String points = " " + i + " " + j + of;
                        changed("merge" + points, e, with(first, second).merge(e, i, j), mergedPlace(p, i, j), other);
                        changed("move" + points, e, with(first, second).move(e, i, j), movedPlace(p, i, j), other);
                    }
                }
            }
        }
    }

    private int turnedPlace(int p) {
        int[] marks = new int[n];
        for (int i = 0; i < n; i++) {
            marks[(i + 1) % n] = all.get(p)[i];
        }
        return placeOf(marks);
    }

    private int mergedPlace(int p, int i, int j) {
        int[] old = all.get(p);
        return placeOf(Arrays.stream(old).map(number -> number == old[j] ? old[i] : number).toArray());
    }

    private int movedPlace(int p, int i, int j) {
        int[] marks = all.get(p).clone();
        marks[i] = i == j ? -1 : marks[j];
        return placeOf(marks);
    }

    private void everyPair() {
        int many = all.size();
        for (int p = 0; p < many; p++) {
            long[] chains = new long[many];
            long[] signs = new long[many];
            // What is finer than q has more blocks, so all that lies below q is counted before q.
            for (int q : byMostBlocks()) {
                BitSet between = between(p, q);
                countBelow(p, q, between, chains, signs);
                comparePair(p, q, between, chains[q], signs[q]);
            }
            for (int q = 0; q < many; q++) {
                compareMeetAndJoin(p, q);
            }
        }
    }

    private int[] byMostBlocks() {
        int[] places = new int[all.size()];
        int filled = 0;
        for (int many = n; many > 0; many--) {
            for (int p = 0; p < places.length; p++) {
                if (blocks[p] == many) {
                    places[filled++] = p;
                }
            }
        }
        return places;
    }

    /** Sets the full chains from p to q and their sign, those to all partitions before q being set. */
    private void countBelow(int p, int q, BitSet between, long[] chains, long[] signs) {
        if (p == q) {
            chains[q] = 1;
            signs[q] = 1;
            return;
        }
        for (int r = between.nextSetBit(0); r >= 0; r = between.nextSetBit(r + 1)) {
            if (r != q) {
                signs[q] -= signs[r];
                chains[q] += steps[r].get(q) ? chains[r] : 0;
            }
        }
    }

    private void comparePair(int p, int q, BitSet between, long chains, long sign) {
        BlockPartitions x = with(p, q);
        String of = n + " points, codes " + codes[p] + " and " + codes[q] + ", ";
        Due.due(of + "finer", x.finer(), coarser[p].get(q) ? 1 : 0);
        Due.due(of + "interval", x.interval(), between.cardinality());
        Due.due(of + "fullChains", x.fullChains(), chains);
        Due.due(of + "sign", x.sign(), sign);
        Due.due(of + "code(0) after", x.code(0), codes[p]);
        Due.due(of + "code(1) after", x.code(1), codes[q]);
    }

    private void compareMeetAndJoin(int p, int q) {
        String of = " of codes " + codes[p] + " and " + codes[q];
        int[] marks = new int[n];
        for (int i = 0; i < n; i++) {
            marks[i] = 10 * all.get(p)[i] + all.get(q)[i];
        }
        changed("meet" + of, 0, with(p, q).meet(), placeOf(marks), q);
        BitSet above = (BitSet) coarser[p].clone();
        above.and(coarser[q]);
        changed("join" + of, 0, with(p, q).join(), most(above), q);
    }
}
