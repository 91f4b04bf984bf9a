/** Each promise with answers worked out by hand; EdgeTest and RefusalTest go through its edges one by one. */
public final class PromiseTest {
    private static final int BAD_ARG = -1000000;
    private static final int NONE = -1000001;

    public static void main(String[] args) {
        constants();
        promise1NewObject();
        promise2Put();
        promise3Merge();
        promise4Move();
        promise5Turn();
        promise6Meet();
        promise7Join();
        promise8Uncross();
        promise9Complement();
        promise10Code();
        promise11Blocks();
        promise12Size();
        promise13Crosses();
        promise14Rank();
        promise15Partition();
        promise16Finer();
        promise17Interval();
        promise18FullChains();
        promise19Sign();
        promise20Uncrossed();
        Due.end();
    }

    private static BlockPartitions with(int points, int first, int second) {
        BlockPartitions x = new BlockPartitions(points);
        x.put(0, first);
        x.put(1, second);
        state("with", x, first, second);
        return x;
    }

    /** An object with this element 0 and every point alone in element 1. */
    private static BlockPartitions of(int... numbers) {
        BlockPartitions x = new BlockPartitions(numbers.length);
        int code = Due.code(numbers);
        x.put(0, code);
        Due.due("code(0) after put", x.code(0), code);
        return x;
    }

    private static void state(String after, BlockPartitions x, int first, int second) {
        Due.due("code(0) after " + after, x.code(0), first);
        Due.due("code(1) after " + after, x.code(1), second);
    }

    private static void constants() {
        Due.due("BAD_ARG", BlockPartitions.BAD_ARG, BAD_ARG);
        Due.due("NONE", BlockPartitions.NONE, NONE);
    }

    private static void promise1NewObject() {
        int[] alone = {0, 8, 136, 1672, 18056, 181896, 1754760};
        for (int n = 1; n <= 7; n++) {
            BlockPartitions x = new BlockPartitions(n);
            state("new " + n, x, alone[n - 1], alone[n - 1]);
            Due.due("blocks of new " + n, x.blocks(0), n);
            Due.due("last point of new " + n, x.size(0, n - 1), 1);
            Due.due("point beyond new " + n, x.size(0, n), BAD_ARG);
        }
        for (int few : new int[] {0, -1, -7, Integer.MIN_VALUE}) {
            BlockPartitions x = new BlockPartitions(few);
            state("new " + few, x, 0, 0);
            Due.due("blocks of new " + few, x.blocks(1), 1);
            Due.due("size(0, 1) of new " + few, x.size(0, 1), BAD_ARG);
        }
        for (int many : new int[] {8, 9, 100, Integer.MAX_VALUE}) {
            BlockPartitions x = new BlockPartitions(many);
            state("new " + many, x, 1754760, 1754760);
            Due.due("blocks of new " + many, x.blocks(1), 7);
            Due.due("size(0, 7) of new " + many, x.size(0, 7), BAD_ARG);
        }
    }

    private static void promise2Put() {
        BlockPartitions x = new BlockPartitions(4);
        int first = Due.code(0, 1, 0, 2);
        int second = Due.code(0, 0, 0, 1);
        Due.due("put(0)", x.put(0, first), 3);
        state("put(0)", x, first, Due.code(0, 1, 2, 3));
        Due.due("put(1)", x.put(1, second), 2);
        state("put(1)", x, first, second);
        int[] none = {
            Due.code(1, 0, 0, 0), Due.code(0, 2, 0, 0), Due.code(0, 0, 2, 1), Due.code(0, 1, 3, 2),
            Due.code(0, 1, 2, 4), Due.code(0, 0, 0, 7), Due.code(7, 7, 7, 7), Due.code(0, 0, 0, 0, 1),
            Due.code(0, 1, 2, 3, 4), Due.code(0, 1, 0, 2, 0, 0, 0, 1), -1, -8, 1 << 30,
            Integer.MIN_VALUE, Integer.MIN_VALUE + 8, Integer.MAX_VALUE};
        for (int code : none) {
            Due.due("put(0, " + code + ")", x.put(0, code), BAD_ARG);
            Due.due("put(1, " + code + ")", x.put(1, code), BAD_ARG);
            state("put of " + code, x, first, second);
        }
        Due.due("put of all in one", x.put(0, 0), 1);
        state("put of all in one", x, 0, second);
        x.move(0, 0, 0);
        Due.due("put after a move", x.put(0, Due.code(0, 1, 1, 0)), 2);
        state("put after a move", x, Due.code(0, 1, 1, 0), second);
        BlockPartitions seven = new BlockPartitions(7);
        Due.due("put in 7", seven.put(1, Due.code(0, 1, 2, 3, 4, 5, 0)), 6);
        Due.due("put beyond 7", seven.put(1, 1 << 21), BAD_ARG);
        BlockPartitions one = new BlockPartitions(1);
        Due.due("put(0, 0) in 1", one.put(0, 0), 1);
        Due.due("put(0, 1) in 1", one.put(0, 1), BAD_ARG);
        Due.due("put(0, 8) in 1", one.put(0, 8), BAD_ARG);
    }

    private static void promise3Merge() {
        BlockPartitions x = of(0, 1, 2, 1, 3, 2);
        int alone = x.code(1);
        Due.due("merge(0, 3, 5)", x.merge(0, 3, 5), 3);
        state("merge(0, 3, 5)", x, Due.code(0, 1, 1, 1, 2, 1), alone);
        Due.due("merge of one block", x.merge(0, 5, 2), 3);
        Due.due("merge of a point", x.merge(0, 4, 4), 3);
        state("merges of nothing", x, Due.code(0, 1, 1, 1, 2, 1), alone);
        Due.due("merge(0, 4, 0)", x.merge(0, 4, 0), 2);
        state("merge(0, 4, 0)", x, Due.code(0, 1, 1, 1, 0, 1), alone);
        Due.due("merge(1, 5, 0)", x.merge(1, 5, 0), 5);
        state("merge(1, 5, 0)", x, Due.code(0, 1, 1, 1, 0, 1), Due.code(0, 1, 2, 3, 4, 0));
    }

    private static void promise4Move() {
        BlockPartitions x = of(0, 0, 1, 1, 2);
        int alone = x.code(1);
        Due.due("move(0, 0, 3)", x.move(0, 0, 3), 3);
        state("move(0, 0, 3)", x, Due.code(0, 1, 0, 0, 2), alone);
        Due.due("move(0, 4, 1)", x.move(0, 4, 1), 2);
        state("move(0, 4, 1)", x, Due.code(0, 1, 0, 0, 1), alone);
        Due.due("move in its block", x.move(0, 2, 3), 2);
        state("move in its block", x, Due.code(0, 1, 0, 0, 1), alone);
        Due.due("move(0, 0, 0)", x.move(0, 0, 0), 3);
        state("move(0, 0, 0)", x, Due.code(0, 1, 2, 2, 1), alone);
        Due.due("move(0, 0, 0) again", x.move(0, 0, 0), 3);
        state("move(0, 0, 0) again", x, Due.code(0, 1, 2, 2, 1), alone);
        Due.due("move(1, 4, 0)", x.move(1, 4, 0), 4);
        state("move(1, 4, 0)", x, Due.code(0, 1, 2, 2, 1), Due.code(0, 1, 2, 3, 0));
        BlockPartitions whole = of(0, 0, 0, 0, 0, 0, 0);
        Due.due("move(0, 6, 6)", whole.move(0, 6, 6), 2);
        Due.due("code(0)", whole.code(0), Due.code(0, 0, 0, 0, 0, 0, 1));
    }

    private static void promise5Turn() {
        BlockPartitions x = of(0, 0, 1, 2, 1);
        int alone = x.code(1);
        int[] turned = {
            Due.code(0, 1, 1, 0, 2), Due.code(0, 1, 2, 2, 1), Due.code(0, 1, 0, 2, 2),
            Due.code(0, 1, 2, 1, 0), Due.code(0, 0, 1, 2, 1)};
        for (int code : turned) {
            Due.due("turn(0)", x.turn(0), 3);
            state("turn(0)", x, code, alone);
        }
        BlockPartitions last = of(0, 0, 0, 1);
        Due.due("turn of a last point alone", last.turn(0), 2);
        Due.due("code(0)", last.code(0), Due.code(0, 1, 1, 1));
        BlockPartitions one = new BlockPartitions(1);
        Due.due("turn(1) of one point", one.turn(1), 1);
        state("turn of one point", one, 0, 0);
    }

    private static void promise6Meet() {
        int second = Due.code(0, 1, 1, 0, 1, 1);
        BlockPartitions x = with(6, Due.code(0, 0, 1, 1, 1, 2), second);
        Due.due("meet()", x.meet(), 5);
        state("meet()", x, Due.code(0, 1, 2, 3, 2, 4), second);
        Due.due("meet() again", x.meet(), 5);
        BlockPartitions same = with(4, Due.code(0, 1, 0, 1), Due.code(0, 1, 0, 1));
        Due.due("meet() of alike", same.meet(), 2);
        state("meet() of alike", same, Due.code(0, 1, 0, 1), Due.code(0, 1, 0, 1));
        BlockPartitions whole = with(4, 0, Due.code(0, 1, 1, 2));
        Due.due("meet() with the whole", whole.meet(), 3);
        state("meet() with the whole", whole, Due.code(0, 1, 1, 2), Due.code(0, 1, 1, 2));
        BlockPartitions seven = with(7, Due.code(0, 1, 2, 3, 4, 5, 0), Due.code(0, 1, 1, 1, 1, 1, 0));
        seven.move(1, 0, 0);
        seven.move(1, 0, 6);
        Due.due("meet() of 7", seven.meet(), 6);
        state("meet() of 7", seven, Due.code(0, 1, 2, 3, 4, 5, 0), Due.code(0, 1, 1, 1, 1, 1, 0));
    }

    private static void promise7Join() {
        int second = Due.code(0, 1, 2, 3, 2, 1, 4);
        BlockPartitions x = with(7, Due.code(0, 1, 0, 2, 3, 4, 3), second);
        Due.due("join()", x.join(), 3);
        state("join()", x, Due.code(0, 1, 0, 2, 0, 1, 0), second);
        BlockPartitions linked = with(6, Due.code(0, 0, 1, 1, 2, 2), Due.code(0, 1, 1, 2, 2, 3));
        Due.due("join() all linked", linked.join(), 1);
        state("join() all linked", linked, 0, Due.code(0, 1, 1, 2, 2, 3));
        BlockPartitions ends = with(7, Due.code(0, 1, 2, 3, 4, 5, 6), Due.code(0, 1, 2, 3, 4, 5, 0));
        Due.due("join() of the ends", ends.join(), 6);
        state("join() of the ends", ends, Due.code(0, 1, 2, 3, 4, 5, 0), Due.code(0, 1, 2, 3, 4, 5, 0));
        BlockPartitions crossing = with(4, Due.code(0, 1, 0, 2), Due.code(0, 1, 2, 1));
        Due.due("join() that crosses", crossing.join(), 2);
        state("join() that crosses", crossing, Due.code(0, 1, 0, 1), Due.code(0, 1, 2, 1));
    }

    private static void promise8Uncross() {
        BlockPartitions x = of(0, 1, 0, 1, 2, 3, 2);
        int alone = x.code(1);
        Due.due("uncross(0)", x.uncross(0), 3);
        state("uncross(0)", x, Due.code(0, 0, 0, 0, 1, 2, 1), alone);
        Due.due("uncross(0) again", x.uncross(0), 3);
        state("uncross(0) again", x, Due.code(0, 0, 0, 0, 1, 2, 1), alone);
        BlockPartitions row = of(0, 1, 0, 2, 1, 2);
        Due.due("uncross of a row of crossings", row.uncross(0), 1);
        Due.due("code(0)", row.code(0), 0);
        BlockPartitions nested = with(7, 0, Due.code(0, 1, 2, 1, 2, 0, 3));
        Due.due("uncross(1)", nested.uncross(1), 3);
        state("uncross(1)", nested, 0, Due.code(0, 1, 1, 1, 1, 0, 2));
        BlockPartitions apart = of(0, 1, 2, 1, 0, 3, 2);
        Due.due("uncross of one block that crosses two", apart.uncross(0), 2);
        Due.due("code(0)", apart.code(0), Due.code(0, 0, 0, 0, 0, 1, 0));
    }

    private static void promise9Complement() {
        BlockPartitions x = of(0, 1, 1, 2);
        int alone = x.code(1);
        Due.due("complement(0)", x.complement(0), 2);
        state("complement(0)", x, Due.code(0, 1, 0, 0), alone);
        Due.due("complement(0) twice", x.complement(0), 3);
        // Two complements are one turn back.
        state("complement(0) twice", x, Due.code(0, 0, 1, 2), alone);
        Due.due("complement(1)", x.complement(1), 1);
        state("complement(1)", x, Due.code(0, 0, 1, 2), 0);
        Due.due("complement(1) of the whole", x.complement(1), 4);
        state("complement(1) of the whole", x, Due.code(0, 0, 1, 2), Due.code(0, 1, 2, 3));
        BlockPartitions crossed = with(4, Due.code(0, 1, 0, 1), Due.code(0, 0, 0, 1));
        Due.due("complement of a crossing", crossed.complement(0), NONE);
        state("complement of a crossing", crossed, Due.code(0, 1, 0, 1), Due.code(0, 0, 0, 1));
        Due.due("complement beside a crossing", crossed.complement(1), 3);
        state("complement beside a crossing", crossed, Due.code(0, 1, 0, 1), Due.code(0, 1, 2, 2));
        BlockPartitions one = new BlockPartitions(1);
        Due.due("complement of one point", one.complement(0), 1);
    }

    private static void promise10Code() {
        BlockPartitions x = new BlockPartitions(3);
        x.merge(1, 1, 2);
        Due.due("code(0)", x.code(0), 0 + 8 * 1 + 64 * 2);
        Due.due("code(1)", x.code(1), 0 + 8 * 1 + 64 * 1);
        x.merge(0, 0, 1);
        Due.due("code(0)", x.code(0), 64);
        x.merge(0, 0, 2);
        Due.due("code(0)", x.code(0), 0);
    }

    private static void promise11Blocks() {
        BlockPartitions x = with(7, Due.code(0, 1, 2, 3, 0, 0, 0), Due.code(0, 0, 0, 0, 0, 0, 1));
        Due.due("blocks(0)", x.blocks(0), 4);
        Due.due("blocks(1)", x.blocks(1), 2);
        x.put(1, 0);
        Due.due("blocks(1)", x.blocks(1), 1);
    }

    private static void promise12Size() {
        BlockPartitions x = with(7, Due.code(0, 1, 2, 1, 0, 1, 1), 0);
        int[] sizes = {2, 4, 1, 4, 2, 4, 4};
        for (int i = 0; i < 7; i++) {
            Due.due("size(0, " + i + ")", x.size(0, i), sizes[i]);
            Due.due("size(1, " + i + ")", x.size(1, i), 7);
        }
    }

    private static void promise13Crosses() {
        Due.due("crosses(0)", of(0, 1, 0, 1).crosses(0), 1);
        Due.due("crosses(0)", of(0, 1, 1, 0).crosses(0), 0);
        Due.due("crosses(0)", of(0, 0, 1, 1).crosses(0), 0);
        Due.due("crosses(0)", of(0, 1, 0).crosses(0), 0);
        Due.due("crosses(0)", of(0, 1, 0, 2, 0, 3, 0).crosses(0), 0);
        Due.due("crosses(0)", of(0, 1, 2, 2, 0, 3, 1).crosses(0), 1);
        Due.due("crosses(0)", of(0, 1, 2, 3, 1, 4, 3).crosses(0), 1);
        BlockPartitions x = with(5, 0, Due.code(0, 1, 2, 1, 2));
        Due.due("crosses(0)", x.crosses(0), 0);
        Due.due("crosses(1)", x.crosses(1), 1);
    }

    private static void promise14Rank() {
        int[] three = {Due.code(0, 0, 0), Due.code(0, 0, 1), Due.code(0, 1, 0), Due.code(0, 1, 1), Due.code(0, 1, 2)};
        for (int k = 0; k < three.length; k++) {
            BlockPartitions x = with(3, three[k], three[4 - k]);
            Due.due("rank(0)", x.rank(0), k);
            Due.due("rank(1)", x.rank(1), 4 - k);
        }
        int[] last = {0, 1, 4, 14, 51, 202, 876};
        for (int n = 1; n <= 7; n++) {
            Due.due("rank(0) of new " + n, new BlockPartitions(n).rank(0), last[n - 1]);
        }
        Due.due("rank(0)", of(0, 0, 0, 0, 0, 0, 1).rank(0), 1);
        Due.due("rank(0)", of(0, 1, 0, 0, 0, 0, 0).rank(0), 203);
    }

    private static void promise15Partition() {
        BlockPartitions x = new BlockPartitions(3);
        int[] three = {Due.code(0, 0, 0), Due.code(0, 0, 1), Due.code(0, 1, 0), Due.code(0, 1, 1), Due.code(0, 1, 2)};
        for (int k = 0; k < three.length; k++) {
            Due.due("partition(" + k + ")", x.partition(k), three[k]);
        }
        for (int k : new int[] {5, 6, 1000, Integer.MAX_VALUE, -1, -5, Integer.MIN_VALUE}) {
            Due.due("partition(" + k + ")", x.partition(k), NONE);
        }
        state("partition", x, three[4], three[4]);
        int[] many = {1, 2, 5, 15, 52, 203, 877};
        for (int n = 1; n <= 7; n++) {
            BlockPartitions y = new BlockPartitions(n);
            Due.due("last partition of " + n, y.partition(many[n - 1] - 1), y.code(0));
            Due.due("partition beyond " + n, y.partition(many[n - 1]), NONE);
        }
    }

    private static void promise16Finer() {
        int coarse = Due.code(0, 1, 0, 1, 0);
        Due.due("finer()", with(5, Due.code(0, 1, 0, 1, 2), coarse).finer(), 1);
        Due.due("finer() of alike", with(5, coarse, coarse).finer(), 1);
        Due.due("finer() the other way", with(5, coarse, Due.code(0, 1, 0, 1, 2)).finer(), 0);
        Due.due("finer() of neither", with(5, coarse, Due.code(0, 0, 0, 1, 1)).finer(), 0);
        Due.due("finer() of as many blocks", with(5, coarse, Due.code(0, 1, 0, 1, 1)).finer(), 0);
        Due.due("finer() than the whole", with(5, coarse, 0).finer(), 1);
    }

    private static void promise17Interval() {
        Due.due("interval() of all", with(7, Due.code(0, 1, 2, 3, 4, 5, 6), 0).interval(), 877);
        Due.due("interval() of alike", with(7, 64, 64).interval(), 1);
        Due.due("interval()", with(6, Due.code(0, 1, 2, 0, 3, 4), Due.code(0, 1, 0, 0, 1, 1)).interval(), 2 * 5);
        Due.due("interval() the other way", with(4, 0, 8).interval(), 0);
        Due.due("interval() of neither", with(4, Due.code(0, 0, 1, 2), Due.code(0, 1, 1, 1)).interval(), 0);
    }

    private static void promise18FullChains() {
        Due.due("fullChains() of all", with(7, Due.code(0, 1, 2, 3, 4, 5, 6), 0).fullChains(), 56700);
        Due.due("fullChains() of alike", with(7, 64, 64).fullChains(), 1);
        Due.due("fullChains() of one step", with(4, Due.code(0, 0, 1, 1), 0).fullChains(), 1);
        Due.due("fullChains() of three", with(3, Due.code(0, 1, 2), 0).fullChains(), 3);
        // One step in one block, two in the other: three places for the one, three ways for the two.
        Due.due("fullChains()", with(6, Due.code(0, 1, 2, 0, 3, 4), Due.code(0, 1, 0, 0, 1, 1)).fullChains(), 9);
        // One step in each of three blocks, in any order.
        Due.due("fullChains()", with(6, Due.code(0, 1, 2, 3, 4, 5), Due.code(0, 1, 2, 2, 1, 0)).fullChains(), 6);
        Due.due("fullChains() the other way", with(4, 0, 8).fullChains(), 0);
        Due.due("fullChains() of neither", with(4, Due.code(0, 0, 1, 2), Due.code(0, 1, 1, 1)).fullChains(), 0);
    }

    private static void promise19Sign() {
        Due.due("sign() of all", with(7, Due.code(0, 1, 2, 3, 4, 5, 6), 0).sign(), 720);
        Due.due("sign() of six", with(6, Due.code(0, 1, 2, 3, 4, 5), 0).sign(), -120);
        Due.due("sign() of alike", with(7, 64, 64).sign(), 1);
        Due.due("sign() of one step", with(4, Due.code(0, 0, 1, 1), 0).sign(), -1);
        Due.due("sign()", with(6, Due.code(0, 1, 2, 0, 3, 4), Due.code(0, 1, 0, 0, 1, 1)).sign(), -2);
        Due.due("sign() the other way", with(4, 0, 8).sign(), 0);
        Due.due("sign() of neither", with(4, Due.code(0, 0, 1, 2), Due.code(0, 1, 1, 1)).sign(), 0);
    }

    private static void promise20Uncrossed() {
        int[] catalan = {1, 2, 5, 14, 42, 132, 429};
        for (int n = 1; n <= 7; n++) {
            BlockPartitions x = new BlockPartitions(n);
            Due.due("uncrossed(0) of new " + n, x.uncrossed(0), 1);
            x.put(1, 0);
            Due.due("uncrossed(1) of the whole " + n, x.uncrossed(1), catalan[n - 1]);
        }
        Due.due("uncrossed(0)", of(0, 1, 1, 0, 0, 0, 2).uncrossed(0), 14 * 2);
        BlockPartitions crossed = with(7, Due.code(0, 1, 0, 1, 2, 2, 2), Due.code(0, 0, 1, 1, 1, 0, 2));
        Due.due("uncrossed of a crossing", crossed.uncrossed(0), NONE);
        Due.due("uncrossed beside a crossing", crossed.uncrossed(1), 25);
        state("uncrossed", crossed, Due.code(0, 1, 0, 1, 2, 2, 2), Due.code(0, 0, 1, 1, 1, 0, 2));
    }
}
