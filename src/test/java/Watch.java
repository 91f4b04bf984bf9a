import java.util.Arrays;

/** Objects with given elements, and looks at both elements before and after a call. */
final class Watch {
    /** A call with its arguments. */
    interface Call {
        int on(BlockPartitions x);
    }

    private Watch() {
    }

    static BlockPartitions with(int[] first, int[] second) {
        BlockPartitions x = new BlockPartitions(first.length);
        Due.due("put(0, " + Due.code(first) + ")", x.put(0, Due.code(first)), Reference.blocks(first));
        Due.due("put(1, " + Due.code(second) + ")", x.put(1, Due.code(second)), Reference.blocks(second));
        elements("put", x, first, second);
        return x;
    }

    static void elements(String after, BlockPartitions x, int[] first, int[] second) {
        Due.due("code(0) after " + after, x.code(0), Due.code(first));
        Due.due("code(1) after " + after, x.code(1), Due.code(second));
    }

    /** The call changes element e from one partition to another, answers its blocks, and spares the other element. */
    static void changes(int e, int[] from, int[] to, String name, Call call) {
        String text = name + " on " + Arrays.toString(from);
        int[] other = Reference.endsTogether(from.length);
        BlockPartitions x = e == 0 ? with(from, other) : with(other, from);
        Due.due(text, call.on(x), Reference.blocks(to));
        elements(text, x, e == 0 ? to : other, e == 0 ? other : to);
    }

    /** The call is refused, and the object then looks, and goes on, like a twin that was not called. */
    static void refuses(int[] first, int[] second, String name, Call call, int want) {
        BlockPartitions x = with(first, second);
        BlockPartitions twin = with(first, second);
        int n = first.length;
        String text = name + " on " + Arrays.toString(first) + " " + Arrays.toString(second);
        int[] before = look(x, n);
        Due.due(text, call.on(x), want);
        elements(text, x, first, second);
        Due.due(text + ", then looks as before", Arrays.equals(look(x, n), before) ? 1 : 0, 1);
        goOn(x, n);
        goOn(twin, n);
        Due.due(text + ", then goes on as its twin", Arrays.equals(look(x, n), look(twin, n)) ? 1 : 0, 1);
    }

    /** Everything that can be asked, some 30 calls. */
    private static int[] look(BlockPartitions x, int n) {
        int[] seen = new int[2 * (5 + n) + 4];
        int filled = 0;
        for (int e = 0; e < 2; e++) {
            seen[filled++] = x.code(e);
            seen[filled++] = x.blocks(e);
            seen[filled++] = x.crosses(e);
            seen[filled++] = x.rank(e);
            seen[filled++] = x.uncrossed(e);
            for (int i = 0; i < n; i++) {
                seen[filled++] = x.size(e, i);
            }
        }
        seen[filled++] = x.finer();
        seen[filled++] = x.interval();
        seen[filled++] = x.fullChains();
        seen[filled] = x.sign();
        return seen;
    }

    private static void goOn(BlockPartitions x, int n) {
        x.turn(0);
        x.move(1, n / 2, n / 2);
        x.merge(0, 0, n - 1);
        x.complement(0);
        x.turn(1);
    }
}
