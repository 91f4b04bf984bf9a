import java.util.ArrayList;
import java.util.Arrays;
import java.util.List;
import java.util.TreeSet;

/** The document's words on partitions, each held as the block numbers of its points. */
final class Reference {
    /** Kept, as many tests go through all partitions of 7 points, and listing them takes long. */
    private static final List<List<int[]>> LISTS = new ArrayList<>();

    private Reference() {
    }

    /** All partitions of n points, in their order. */
    static List<int[]> all(int n) {
        for (int points = LISTS.size(); points <= n; points++) {
            LISTS.add(listed(points));
        }
        return LISTS.get(n);
    }

    /** Every way to mark the points, with the marks made block numbers, sorted by them. */
    private static List<int[]> listed(int n) {
        TreeSet<int[]> sorted = new TreeSet<>(Arrays::compare);
        int ways = 1;
        for (int i = 0; i < n; i++) {
            ways *= n;
        }
        for (int way = 0; way < ways; way++) {
            int[] marks = new int[n];
            int left = way;
            for (int i = 0; i < n; i++) {
                marks[i] = left % n;
                left /= n;
            }
            sorted.add(numbered(marks));
        }
        return new ArrayList<>(sorted);
    }

    /** The block numbers of points that share a block if their marks are equal. */
    static int[] numbered(int... marks) {
        List<Integer> inOrderOfLeastPoints = new ArrayList<>();
        int[] numbers = new int[marks.length];
        for (int i = 0; i < marks.length; i++) {
            if (!inOrderOfLeastPoints.contains(marks[i])) {
                inOrderOfLeastPoints.add(marks[i]);
            }
            numbers[i] = inOrderOfLeastPoints.indexOf(marks[i]);
        }
        return numbers;
    }

    static int[] alone(int n) {
        int[] numbers = new int[n];
        for (int i = 0; i < n; i++) {
            numbers[i] = i;
        }
        return numbers;
    }

    static int[] whole(int n) {
        return new int[n];
    }

    /** The even points and the odd ones; it has a crossing if there are 4 points or more. */
    static int[] evenAndOdd(int n) {
        int[] numbers = new int[n];
        for (int i = 0; i < n; i++) {
            numbers[i] = i % 2;
        }
        return numbers;
    }

    /** The first and the last point in one block, each other one alone. */
    static int[] endsTogether(int n) {
        int[] numbers = alone(n);
        numbers[n - 1] = 0;
        return numbers;
    }

    static int blocks(int[] p) {
        return (int) Arrays.stream(p).distinct().count();
    }

    static boolean isCrossing(int[] p) {
        for (int i = 0; i < p.length; i++) {
            for (int j = i + 1; j < p.length; j++) {
                for (int k = j + 1; k < p.length; k++) {
                    for (int l = k + 1; l < p.length; l++) {
                        if (p[i] == p[k] && p[j] == p[l] && p[i] != p[j]) {
                            return true;
                        }
                    }
                }
            }
        }
        return false;
    }

    static boolean isFiner(int[] p, int[] q) {
        for (int i = 0; i < p.length; i++) {
            for (int j = 0; j < p.length; j++) {
                if (p[i] == p[j] && q[i] != q[j]) {
                    return false;
                }
            }
        }
        return true;
    }
}
