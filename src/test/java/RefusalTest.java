import java.util.ArrayList;
import java.util.List;
import java.util.Set;
import java.util.TreeSet;

/** What the document's Terms say of every call: no throw, refusals that change nothing, their order. */
public final class RefusalTest {
    private static final int BAD_ARG = -1000000;
    private static final int NONE = -1000001;
    private static final int MIN = Integer.MIN_VALUE;
    private static final int MAX = Integer.MAX_VALUE;

    /** 7 times this is 1 in Java's wrap-around: a place reckoned from it can look right. */
    private static final int WRAPS_TO_ONE = -1227133513;

    public static void main(String[] args) {
        Due.sentence("No call ever throws", RefusalTest::noThrow);
        Due.sentence("A refused call answers the code named and changes nothing", RefusalTest::nothingChanged);
        Due.sentence("In every call an element e that is not 0 or 1 answers BAD_ARG", RefusalTest::wrongElement);
        Due.sentence("tested first", RefusalTest::elementFirst);
        Due.sentence("then a point that is not 0 to n - 1 answers BAD_ARG", RefusalTest::wrongPoint);
        Due.sentence("There are two ELEMENTS, 0 and 1", RefusalTest::bothElements);
        Due.sentence("There are n POINTS (1 to 7), 0 to n - 1", RefusalTest::firstAndLastPoint);
        Due.sentence("An object is used for at most 512 calls", RefusalTest::lastCall);
        Due.end();
    }

    // Arguments

    private static int[] noElements() {
        int[] some = {
            -1, 2, 3, -2, 6, 7, 8, 14, -7, 32, 33, 255, 256, 257, 65536, 65537, BAD_ARG, NONE,
            1 << 29, (1 << 29) + 1, 1 << 30, (1 << 30) + 1, MIN, MIN + 1, MIN + 2, MAX, MAX - 1, MAX - 2};
        List<Integer> list = listOf(some);
        for (int place = 1; place < 14; place++) {
            if (place != 7) {
                list.add(WRAPS_TO_ONE * place);
            }
        }
        return arrayOf(list);
    }

    private static int[] noPoints(int n) {
        int[] some = {
            -1, -2, -6, -7, -8, 7, 8, 13, 14, 32, 256, 65536, BAD_ARG, NONE, 1 << 29, 1 << 30,
            MIN, MIN + 1, MAX, MAX - 1};
        List<Integer> list = listOf(some);
        // These have a place in an array made for 7 points.
        for (int i = n; i < 7; i++) {
            list.add(i);
        }
        return arrayOf(list);
    }

    private static List<Integer> listOf(int[] values) {
        List<Integer> list = new ArrayList<>();
        for (int value : values) {
            list.add(value);
        }
        return list;
    }

    private static int[] arrayOf(List<Integer> list) {
        return list.stream().mapToInt(Integer::intValue).toArray();
    }

    /** Pairs of elements to try a refused call on: the finest and the coarsest, alike, and with crossings. */
    private static int[][][] pairs(int n) {
        int[] alone = Reference.alone(n);
        int[] whole = Reference.whole(n);
        int[] mixed = Reference.evenAndOdd(n);
        int[] ends = Reference.endsTogether(n);
        return new int[][][] {{alone, whole}, {whole, alone}, {mixed, mixed}, {ends, mixed}, {mixed, ends}};
    }

    private static void refusesOnAll(int n, String name, Watch.Call call, int want) {
        for (int[][] pair : pairs(n)) {
            Watch.refuses(pair[0], pair[1], n + " points, " + name, call, want);
        }
    }

    // The sentences

    private static void noThrow() {
        int[] values = {MIN, MIN + 1, WRAPS_TO_ONE, BAD_ARG, -8, -7, -1, 0, 1, 2, 5, 6, 7, 8, 32, 512, 1 << 21, 1 << 30, MAX - 1, MAX};
        for (int n = 1; n <= 7; n++) {
            Set<Integer> codes = new TreeSet<>();
            for (int[] partition : Reference.all(n)) {
                codes.add(Due.code(partition));
            }
            for (int first : values) {
                for (int second : values) {
                    BlockPartitions x = Watch.with(Reference.evenAndOdd(n), Reference.endsTogether(n));
                    for (int third : values) {
                        x.merge(first, second, third);
                        x.move(first, second, third);
                        x.meet();
                        x.turn(0);
                        x.join();
                    }
                    callTheRest(x, first, second);
                    boolean partitions = codes.contains(x.code(0)) && codes.contains(x.code(1));
                    Due.due(n + " points, both are partitions after " + first + " " + second, partitions ? 1 : 0, 1);
                }
            }
        }
    }

    private static void callTheRest(BlockPartitions x, int first, int second) {
        x.put(first, second);
        x.size(first, second);
        x.turn(first);
        x.uncrossed(first);
        x.complement(first);
        x.uncross(first);
        x.code(first);
        x.blocks(first);
        x.crosses(first);
        x.rank(first);
        x.partition(first);
        x.finer();
        x.interval();
        x.fullChains();
        x.sign();
    }

    private static void nothingChanged() {
        for (int n = 1; n <= 7; n++) {
            int points = n;
            for (int e = 0; e < 2; e++) {
                int element = e;
                refusesOnAll(n, "put of no code", x -> x.put(element, 1), BAD_ARG);
                refusesOnAll(n, "merge of no point", x -> x.merge(element, 0, points), BAD_ARG);
                refusesOnAll(n, "move of no point", x -> x.move(element, points, 0), BAD_ARG);
                refusesOnAll(n, "size of no point", x -> x.size(element, points), BAD_ARG);
            }
            refusesOnAll(n, "turn of no element", x -> x.turn(2), BAD_ARG);
            refusesOnAll(n, "partition(-1)", x -> x.partition(-1), NONE);
            refusesOnAll(n, "partition(877)", x -> x.partition(877), NONE);
        }
        for (int n = 4; n <= 7; n++) {
            int[] crossing = Reference.evenAndOdd(n);
            int[] whole = Reference.whole(n);
            Watch.refuses(crossing, whole, "complement(0)", x -> x.complement(0), NONE);
            Watch.refuses(whole, crossing, "complement(1)", x -> x.complement(1), NONE);
            Watch.refuses(crossing, whole, "uncrossed(0)", x -> x.uncrossed(0), NONE);
            Watch.refuses(whole, crossing, "uncrossed(1)", x -> x.uncrossed(1), NONE);
        }
    }

    private static void wrongElement() {
        for (int n = 1; n <= 7; n++) {
            int last = n - 1;
            int alone = Due.code(Reference.alone(n));
            for (int e : noElements()) {
                refusesOnAll(n, "put(" + e + ", 0)", x -> x.put(e, 0), BAD_ARG);
                refusesOnAll(n, "put(" + e + ", " + alone + ")", x -> x.put(e, alone), BAD_ARG);
                refusesOnAll(n, "merge(" + e + ", 0, " + last + ")", x -> x.merge(e, 0, last), BAD_ARG);
                refusesOnAll(n, "move(" + e + ", 0, " + last + ")", x -> x.move(e, 0, last), BAD_ARG);
                refusesOnAll(n, "move(" + e + ", 0, 0)", x -> x.move(e, 0, 0), BAD_ARG);
                refusesOnAll(n, "turn(" + e + ")", x -> x.turn(e), BAD_ARG);
                refusesOnAll(n, "uncross(" + e + ")", x -> x.uncross(e), BAD_ARG);
                refusesOnAll(n, "complement(" + e + ")", x -> x.complement(e), BAD_ARG);
                refusesOnAll(n, "code(" + e + ")", x -> x.code(e), BAD_ARG);
                refusesOnAll(n, "blocks(" + e + ")", x -> x.blocks(e), BAD_ARG);
                refusesOnAll(n, "size(" + e + ", " + last + ")", x -> x.size(e, last), BAD_ARG);
                refusesOnAll(n, "crosses(" + e + ")", x -> x.crosses(e), BAD_ARG);
                refusesOnAll(n, "rank(" + e + ")", x -> x.rank(e), BAD_ARG);
                refusesOnAll(n, "uncrossed(" + e + ")", x -> x.uncrossed(e), BAD_ARG);
            }
        }
    }

    /** What else is wrong beside the element neither throws nor gives another answer. */
    private static void elementFirst() {
        for (int n = 1; n <= 7; n++) {
            int[] bad = {MIN, -1, n, 7, MAX};
            for (int e : new int[] {MIN, -1, 2, WRAPS_TO_ONE, MAX}) {
                for (int i : bad) {
                    refusesOnAll(n, "put(" + e + ", no code)", x -> x.put(e, i < 0 ? i : 1 + i % 7), BAD_ARG);
                    refusesOnAll(n, "size(" + e + ", " + i + ")", x -> x.size(e, i), BAD_ARG);
                    refusesOnAll(n, "merge(" + e + ", 0, " + i + ")", x -> x.merge(e, 0, i), BAD_ARG);
                    refusesOnAll(n, "merge(" + e + ", " + i + ", 0)", x -> x.merge(e, i, 0), BAD_ARG);
                    refusesOnAll(n, "move(" + e + ", " + i + ", 0)", x -> x.move(e, i, 0), BAD_ARG);
                    refusesOnAll(n, "move(" + e + ", " + i + ", " + i + ")", x -> x.move(e, i, i), BAD_ARG);
                }
                // In evenAndOdd both elements cross, so a late look at e would answer NONE.
                refusesOnAll(n, "complement(" + e + ")", x -> x.complement(e), BAD_ARG);
                refusesOnAll(n, "uncrossed(" + e + ")", x -> x.uncrossed(e), BAD_ARG);
            }
        }
    }

    private static void wrongPoint() {
        for (int n = 1; n <= 7; n++) {
            for (int e = 0; e < 2; e++) {
                for (int i : noPoints(n)) {
                    wrongPoint(n, e, i);
                }
            }
        }
    }

    private static void wrongPoint(int n, int e, int i) {
        for (int good : new int[] {0, n - 1}) {
            refusesOnAll(n, "merge(" + e + ", " + i + ", " + good + ")", x -> x.merge(e, i, good), BAD_ARG);
            refusesOnAll(n, "merge(" + e + ", " + good + ", " + i + ")", x -> x.merge(e, good, i), BAD_ARG);
            refusesOnAll(n, "move(" + e + ", " + i + ", " + good + ")", x -> x.move(e, i, good), BAD_ARG);
            refusesOnAll(n, "move(" + e + ", " + good + ", " + i + ")", x -> x.move(e, good, i), BAD_ARG);
        }
        refusesOnAll(n, "merge(" + e + ", " + i + ", " + i + ")", x -> x.merge(e, i, i), BAD_ARG);
        refusesOnAll(n, "move(" + e + ", " + i + ", " + i + ")", x -> x.move(e, i, i), BAD_ARG);
        refusesOnAll(n, "size(" + e + ", " + i + ")", x -> x.size(e, i), BAD_ARG);
    }

    /** Each of the two is taken, and a change to it spares the other one. */
    private static void bothElements() {
        for (int n = 1; n <= 7; n++) {
            int[] alone = Reference.alone(n);
            int[] whole = Reference.whole(n);
            int last = n - 1;
            for (int e = 0; e < 2; e++) {
                int element = e;
                Watch.changes(e, alone, whole, "put", x -> x.put(element, 0));
                Watch.changes(e, whole, alone, "put", x -> x.put(element, Due.code(alone)));
                Watch.changes(e, alone, Reference.endsTogether(n), "merge", x -> x.merge(element, 0, last));
                Watch.changes(e, alone, Reference.endsTogether(n), "move", x -> x.move(element, last, 0));
                Watch.changes(e, whole, alone, "complement", x -> x.complement(element));
                Watch.changes(e, whole, whole, "turn", x -> x.turn(element));
                Watch.changes(e, alone, alone, "uncross", x -> x.uncross(element));
            }
        }
    }

    private static void firstAndLastPoint() {
        for (int n = 1; n <= 7; n++) {
            for (int e = 0; e < 2; e++) {
                BlockPartitions x = new BlockPartitions(n);
                String of = n + " points, element " + e + ", ";
                Due.due(of + "size of point 0", x.size(e, 0), 1);
                Due.due(of + "size of point n - 1", x.size(e, n - 1), 1);
                Due.due(of + "size of point n", x.size(e, n), BAD_ARG);
                Due.due(of + "size of point -1", x.size(e, -1), BAD_ARG);
                Due.due(of + "merge of point n - 1 and point 0", x.merge(e, n - 1, 0), n == 1 ? 1 : n - 1);
                Due.due(of + "merge of point n and point 0", x.merge(e, n, 0), BAD_ARG);
                Due.due(of + "move of point n - 1", x.move(e, n - 1, n - 1), n);
                Due.due(of + "move of point n", x.move(e, n, n), BAD_ARG);
            }
        }
    }

    /** The 512th call answers like an early one, whether those before it were refused or not. */
    private static void lastCall() {
        BlockPartitions turned = new BlockPartitions(7);
        turned.put(0, Due.code(0, 0, 1, 2, 3, 4, 5));
        for (int call = 2; call <= 511; call++) {
            Due.due("turn(0), call " + call, turned.turn(0), 6);
        }
        // 510 turns are 6 beyond a multiple of 7.
        Due.due("code(0), call 512", turned.code(0), Due.code(0, 1, 2, 3, 4, 5, 0));
        BlockPartitions refused = new BlockPartitions(1);
        for (int call = 1; call <= 511; call++) {
            Due.due("merge(0, 0, 1), call " + call, refused.merge(0, 0, 1), BAD_ARG);
        }
        Due.due("uncrossed(1), call 512", refused.uncrossed(1), 1);
        BlockPartitions complements = new BlockPartitions(7);
        for (int call = 1; call <= 512; call++) {
            Due.due("complement(0), call " + call, complements.complement(0), call % 2 == 1 ? 1 : 7);
        }
        sameTo512(1);
        sameTo512(7);
    }

    /** Calls whose answer stays the same, from a finest element 0 and a coarsest element 1 on. */
    private static void sameTo512(int n) {
        int alone = Due.code(Reference.alone(n));
        int last = n - 1;
        Watch.Call[] calls = {
            x -> x.put(0, alone), x -> x.merge(0, 0, 0), x -> x.move(0, last, last), x -> x.turn(0), x -> x.turn(1),
            x -> x.meet(), x -> x.join(), x -> x.uncross(1), x -> x.code(0), x -> x.blocks(0), x -> x.size(1, last),
            x -> x.crosses(0), x -> x.rank(0), x -> x.partition(1), x -> x.finer(), x -> x.interval(),
            x -> x.fullChains(), x -> x.sign(), x -> x.uncrossed(1)};
        for (int c = 0; c < calls.length; c++) {
            BlockPartitions x = new BlockPartitions(n);
            x.put(1, 0);
            int early = calls[c].on(x);
            for (int call = 3; call <= 512; call++) {
                Due.due(n + " points, calls[" + c + "], call " + call, calls[c].on(x), early);
            }
        }
    }
}
