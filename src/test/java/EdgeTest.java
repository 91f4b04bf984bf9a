import java.util.ArrayList;
import java.util.Arrays;
import java.util.List;
import java.util.Set;
import java.util.TreeSet;

/** Each sentence of the document that names a boundary case has a test of its own here or in RefusalTest. */
public final class EdgeTest {
    private static final int BAD_ARG = -1000000;
    private static final int NONE = -1000001;
    private static final int MIN = Integer.MIN_VALUE;
    private static final int MAX = Integer.MAX_VALUE;

    /** How many partitions 0 to 7 points have, and how many of them have no crossing. */
    private static final int[] MANY = {1, 1, 2, 5, 15, 52, 203, 877};
    private static final int[] MANY_UNCROSSED = {1, 1, 2, 5, 14, 42, 132, 429};

    public static void main(String[] args) {
        terms();
        changes();
        questions();
        questionsOfBoth();
        Due.end();
    }

    private static void terms() {
        Due.sentence("BLOCKS, none of them empty", EdgeTest::noEmptyBlock);
        Due.sentence("that of point 0 is block 0, and the others follow in the order of their least points", EdgeTest::numbersInOrder);
        Due.sentence("the first point, from point 0 on, whose block has not the same number in both decides", EdgeTest::firstPointDecides);
        Due.sentence("P is finer than itself, too", EdgeTest::finerThanItself);
        Due.sentence("it is a FULL chain if no partition can be put into it", EdgeTest::shortestAndLongestChains);
        Due.sentence("The SIGN of P and Q is 0 if P is not finer than Q", EdgeTest::signOfNotFiner);
        Due.sentence("1 if P is Q", EdgeTest::signOfAlike);
        Due.sentence("else less the sum of the signs of P and R over all R in the interval from P to Q except Q itself", EdgeTest::signOfOthers);
        Due.sentence("i < j < k < l with i and k in one block, and j and l in another one", EdgeTest::leastAndWidestCrossings);
        Due.sentence("BAD_ARG = -1000000", () -> Due.due("BAD_ARG", BlockPartitions.BAD_ARG, BAD_ARG));
        Due.sentence("NONE = -1000001", () -> Due.due("NONE", BlockPartitions.NONE, NONE));
    }

    private static void changes() {
        Due.sentence("1: below 1 becomes 1", EdgeTest::tooFewPoints);
        Due.sentence("1: above 7 becomes 7", EdgeTest::tooManyPoints);
        Due.sentence("1: clamped into 1 to 7", EdgeTest::allowedPoints);
        Due.sentence("1: in both elements each point is a block of its own", EdgeTest::newElements);
        Due.sentence("2: BAD_ARG if it is none's", EdgeTest::putOfNone);
        Due.sentence("2: Otherwise how many blocks it has", EdgeTest::putOfEach);
        Due.sentence("3: the blocks of points i and j become one", EdgeTest::mergeOfOneBlock);
        Due.sentence("3: Answers how many blocks there are then", EdgeTest::mergeOfAll);
        Due.sentence("4: or, if i = j, becomes a block of its own", EdgeTest::moveToItself);
        Due.sentence("4: leaves its block, and goes to the block of point j", EdgeTest::moveWithinABlock);
        Due.sentence("5: the last one that of point 0", EdgeTest::turnOfTheLast);
        Due.sentence("5: each point i takes the place of point i + 1", EdgeTest::turnOfEach);
        Due.sentence("6: in one block if they are so in both elements", EdgeTest::meetOfExtremes);
        Due.sentence("7: the most blocks than which both elements are finer", EdgeTest::joinOfExtremes);
        Due.sentence("8: the most blocks that has no crossing", EdgeTest::uncrossOfExtremes);
        Due.sentence("9: NONE if element e has a crossing", EdgeTest::complementOfACrossing);
        Due.sentence("9: the partition Q with the fewest blocks", EdgeTest::complementOfExtremes);
    }

    private static void questions() {
        Due.sentence("10: The code of element e", EdgeTest::leastAndGreatestCode);
        Due.sentence("11: How many blocks element e has", EdgeTest::fewestAndMostBlocks);
        Due.sentence("12: How many points the block of point i", EdgeTest::leastAndGreatestSize);
        Due.sentence("13: 1 if element e has a crossing, else 0", EdgeTest::crossesAtEachNumberOfPoints);
        Due.sentence("14: How many partitions come before element e", EdgeTest::firstAndLastRank);
        Due.sentence("15: NONE if there is none", EdgeTest::partitionOfNone);
        Due.sentence("15: The code of the partition with k others before it", EdgeTest::firstAndLastPartition);
        Due.sentence("20: NONE if element e has a crossing", EdgeTest::uncrossedOfACrossing);
        Due.sentence("20: How many partitions without a crossing are finer than element e", EdgeTest::fewestAndMostUncrossed);
    }

    private static void questionsOfBoth() {
        Due.sentence("16: 1 if element 0 is finer than element 1, else 0", EdgeTest::finerOfExtremes);
        Due.sentence("17: 0 if element 0 is not finer than element 1", EdgeTest::intervalOfNotFiner);
        Due.sentence("17: How many partitions the interval", EdgeTest::leastAndGreatestInterval);
        Due.sentence("18: 0 if element 0 is not finer than element 1", EdgeTest::fullChainsOfNotFiner);
        Due.sentence("18: How many full chains there are", EdgeTest::fewestAndMostFullChains);
        Due.sentence("19: The sign of element 0 and element 1", EdgeTest::signOfExtremes);
    }

    private static int[] p(int... numbers) {
        return numbers;
    }

    /** The finest, the coarsest, one with crossings if there can be any, and one that goes around the ends. */
    private static List<int[]> extremes(int n) {
        return List.of(Reference.alone(n), Reference.whole(n), Reference.evenAndOdd(n), Reference.endsTogether(n));
    }

    private static String textOf(int[] first, int[] second) {
        return " of " + Arrays.toString(first) + " and " + Arrays.toString(second);
    }

    /** The answer to a question, which must leave both elements as they were. */
    private static void answers(int[] first, int[] second, String name, Watch.Call call, long want) {
        BlockPartitions x = Watch.with(first, second);
        String text = name + textOf(first, second);
        Due.due(text, call.on(x), want);
        Watch.elements(text, x, first, second);
    }

    /** The answers of a question about one element, for both elements. */
    private static void answersOfEach(int[] first, String name, ElementCall question, long want) {
        int[] other = Reference.endsTogether(first.length);
        answers(first, other, name + "(0)", x -> question.of(x, 0), want);
        answers(other, first, name + "(1)", x -> question.of(x, 1), want);
    }

    private interface ElementCall {
        int of(BlockPartitions x, int e);
    }

    /** Pairs of which the first is not finer than the second; one point has none. */
    private static List<int[][]> notFiner(int n) {
        List<int[][]> pairs = new ArrayList<>();
        List<int[]> all = Reference.all(n);
        // Every pair of 7 points takes too long with a new object each; DefinitionTest has them all.
        for (int[] first : all) {
            for (int[] second : n < 7 ? all : List.of(Reference.alone(n), Reference.endsTogether(n), Reference.evenAndOdd(n))) {
                if (!Reference.isFiner(first, second)) {
                    pairs.add(new int[][] {first, second});
                }
            }
        }
        return pairs;
    }

    // Terms

    /** A block left by its only point is gone, and the numbers close up. */
    private static void noEmptyBlock() {
        for (int n = 2; n <= 7; n++) {
            for (int e = 0; e < 2; e++) {
                leaveEach(n, e);
            }
        }
        int[] alone = Reference.alone(7);
        Watch.changes(0, alone, p(0, 1, 2, 3, 4, 5, 0), "move(0, 0, 6)", x -> x.move(0, 0, 6));
        Watch.changes(1, alone, p(0, 1, 2, 3, 4, 5, 0), "move(1, 6, 0)", x -> x.move(1, 6, 0));
        Watch.changes(0, alone, p(0, 1, 2, 3, 3, 4, 5), "move(0, 3, 4)", x -> x.move(0, 3, 4));
        Watch.changes(1, p(0, 1, 2, 0, 2, 0, 2), p(0, 0, 1, 0, 1, 0, 1), "move(1, 1, 5)", x -> x.move(1, 1, 5));
    }

    private static void leaveEach(int n, int e) {
        int[] alone = Reference.alone(n);
        for (int i = 0; i < n; i++) {
            for (int j = 0; j < n; j++) {
                int from = i;
                int to = j;
                int[] marks = alone.clone();
                marks[from] = marks[to];
                int[] left = Reference.numbered(marks);
                Watch.changes(e, alone, left, "move " + i + " " + j, x -> x.move(e, from, to));
                Watch.changes(e, alone, left, "merge " + i + " " + j, x -> x.merge(e, from, to));
            }
        }
    }

    private static void numbersInOrder() {
        Watch.changes(0, Reference.whole(7), p(0, 1, 1, 1, 1, 1, 1), "move(0, 0, 0)", x -> x.move(0, 0, 0));
        Watch.changes(1, Reference.whole(7), p(0, 0, 0, 0, 0, 0, 1), "move(1, 6, 6)", x -> x.move(1, 6, 6));
        Watch.changes(0, p(0, 0, 1, 1, 2, 2, 3), p(0, 1, 2, 2, 3, 3, 0), "move(0, 0, 6)", x -> x.move(0, 0, 6));
        Watch.changes(1, p(0, 1, 2, 3, 2, 1, 0), p(0, 0, 1, 2, 1, 0, 0), "merge(1, 5, 6)", x -> x.merge(1, 5, 6));
        Watch.changes(0, p(0, 1), p(0, 0), "merge(0, 1, 0)", x -> x.merge(0, 1, 0));
        for (int n = 1; n <= 7; n++) {
            for (int e = 0; e < 2; e++) {
                takeApart(n, e);
            }
        }
    }

    /** The points leave one common block, the last one first. */
    private static void takeApart(int n, int e) {
        BlockPartitions x = new BlockPartitions(n);
        x.put(e, 0);
        int[] marks = new int[n];
        for (int i = n - 1; i > 0; i--) {
            marks[i] = i;
            Due.due("move of " + i + " of " + n + " points", x.move(e, i, i), n - i + 1);
            Due.due("code after move of " + i + " of " + n + " points", x.code(e), Due.code(Reference.numbered(marks)));
        }
    }

    private static void firstPointDecides() {
        // The codes go another way: the last point weighs most in them.
        neighbours(202, p(0, 0, 1, 2, 3, 4, 5), p(0, 1, 0, 0, 0, 0, 0));
        neighbours(0, p(0, 0, 0, 0, 0, 0, 0), p(0, 0, 0, 0, 0, 0, 1));
        neighbours(1, p(0, 0, 0, 0, 0, 0, 1), p(0, 0, 0, 0, 0, 1, 0));
        neighbours(875, p(0, 1, 2, 3, 4, 5, 5), p(0, 1, 2, 3, 4, 5, 6));
        neighbours(0, p(0, 0), p(0, 1));
        for (int n = 1; n <= 7; n++) {
            List<int[]> all = Reference.all(n);
            Due.due("partitions of " + n + " points", all.size(), MANY[n]);
            for (int k = 0; k + 1 < all.size(); k++) {
                neighbours(k, all.get(k), all.get(k + 1));
            }
        }
    }

    private static void neighbours(int k, int[] first, int[] second) {
        BlockPartitions x = Watch.with(first, second);
        Due.due("rank(0)" + textOf(first, second), x.rank(0), k);
        Due.due("rank(1)" + textOf(first, second), x.rank(1), k + 1);
        Due.due("partition(" + k + ")", x.partition(k), Due.code(first));
        Due.due("partition(" + (k + 1) + ")", x.partition(k + 1), Due.code(second));
    }

    private static void finerThanItself() {
        for (int n = 1; n <= 7; n++) {
            for (int[] same : Reference.all(n)) {
                answers(same, same, "finer()", x -> x.finer(), 1);
                answers(same, same, "interval()", x -> x.interval(), 1);
                answers(same, same, "fullChains()", x -> x.fullChains(), 1);
            }
        }
    }

    private static void shortestAndLongestChains() {
        // A step that merges two blocks leaves no room; one that merges three has room for any of three.
        for (int n = 2; n <= 7; n++) {
            answers(Reference.alone(n), Reference.endsTogether(n), "fullChains() of one step", x -> x.fullChains(), 1);
        }
        answers(p(0, 0, 0, 1, 1, 1, 1), Reference.whole(7), "fullChains() of one step", x -> x.fullChains(), 1);
        answers(p(0, 0, 0, 1, 1, 2, 2), Reference.whole(7), "fullChains() of two steps", x -> x.fullChains(), 3);
        answers(p(0, 1, 2, 2, 2, 2, 2), p(0, 0, 1, 1, 1, 1, 1), "fullChains() of one step", x -> x.fullChains(), 1);
        answers(p(0, 1, 2, 2, 3, 2, 2), p(0, 0, 1, 1, 1, 1, 1), "fullChains() of two steps", x -> x.fullChains(), 2);
    }

    private static void signOfNotFiner() {
        for (int n = 2; n <= 7; n++) {
            for (int[][] pair : notFiner(n)) {
                answers(pair[0], pair[1], "sign()", x -> x.sign(), 0);
            }
        }
        answers(Reference.whole(7), Reference.alone(7), "sign()", x -> x.sign(), 0);
        answers(p(0, 0, 1, 1, 2, 2, 3), p(0, 0, 1, 1, 2, 3, 3), "sign()", x -> x.sign(), 0);
    }

    private static void signOfAlike() {
        for (int n = 1; n <= 7; n++) {
            for (int[] same : Reference.all(n)) {
                answers(same, same, "sign()", x -> x.sign(), 1);
            }
        }
    }

    /** The signs of a finest partition and all others have the sum 0, as the last one makes up for the rest. */
    private static void signOfOthers() {
        for (int n = 2; n <= 7; n++) {
            long sum = 0;
            for (int[] second : Reference.all(n)) {
                sum += Watch.with(Reference.alone(n), second).sign();
            }
            Due.due("sum of all signs of " + n + " points", sum, 0);
            answers(Reference.alone(n), Reference.endsTogether(n), "sign() of one step", x -> x.sign(), -1);
        }
        answers(p(0, 0, 0, 1, 1, 2, 2), Reference.whole(7), "sign()", x -> x.sign(), 2);
        answers(p(0, 1, 2, 2, 3, 2, 2), p(0, 0, 1, 1, 1, 1, 1), "sign()", x -> x.sign(), 1);
    }

    private static void leastAndWidestCrossings() {
        int[][] crossings = {
            p(0, 1, 0, 1), p(0, 1, 0, 1, 2, 3, 4), p(0, 1, 2, 3, 4, 3, 4), p(0, 1, 2, 3, 4, 0, 1),
            p(0, 1, 2, 0, 3, 4, 1), p(0, 1, 1, 1, 1, 0, 1), p(0, 0, 0, 1, 0, 1, 1), p(0, 1, 2, 3, 1, 0, 3)};
        int[][] none = {
            p(0, 0, 0, 0), p(0, 1, 1, 0), p(0, 0, 1, 1), p(0, 1, 0, 2), p(0, 1, 2, 1), p(0, 1, 0),
            p(0, 0, 0, 0, 0, 0, 0), p(0, 1, 2, 3, 4, 5, 0), p(0, 1, 2, 3, 2, 1, 0), p(0, 1, 0, 2, 0, 3, 0), p(0)};
        for (int[] crossing : crossings) {
            answersOfEach(crossing, "crosses", (x, e) -> x.crosses(e), 1);
        }
        for (int[] numbers : none) {
            answersOfEach(numbers, "crosses", (x, e) -> x.crosses(e), 0);
        }
    }

    // Promise 1

    private static void tooFewPoints() {
        for (int points : new int[] {0, -1, -6, -7, -8, -255, -256, -65535, BAD_ARG, 1 << 31, MIN, MIN + 1, MIN + 7}) {
            hasPoints(points, 1);
        }
    }

    private static void tooManyPoints() {
        for (int points : new int[] {8, 9, 14, 15, 255, 256, 257, 259, 65536, 65539, 1 << 29, 1 << 30, MAX, MAX - 1, MAX - 7}) {
            hasPoints(points, 7);
        }
    }

    private static void allowedPoints() {
        for (int points = 1; points <= 7; points++) {
            hasPoints(points, points);
        }
    }

    private static void hasPoints(int points, int n) {
        String of = "new BlockPartitions(" + points + "), ";
        BlockPartitions x = new BlockPartitions(points);
        for (int e = 0; e < 2; e++) {
            Due.due(of + "blocks(" + e + ")", x.blocks(e), n);
            Due.due(of + "size of the last point", x.size(e, n - 1), 1);
            Due.due(of + "size beyond the last point", x.size(e, n), BAD_ARG);
        }
        Due.due(of + "last partition", x.partition(MANY[n] - 1), Due.code(Reference.alone(n)));
        Due.due(of + "partition beyond it", x.partition(MANY[n]), NONE);
    }

    private static void newElements() {
        for (int points : new int[] {MIN, 0, 1, 2, 3, 4, 5, 6, 7, 8, MAX}) {
            int n = points < 1 ? 1 : points > 7 ? 7 : points;
            BlockPartitions x = new BlockPartitions(points);
            Watch.elements("new BlockPartitions(" + points + ")", x, Reference.alone(n), Reference.alone(n));
            for (int i = 0; i < n; i++) {
                Due.due("size(0, " + i + ")", x.size(0, i), 1);
                Due.due("size(1, " + i + ")", x.size(1, i), 1);
            }
        }
        Due.due("code(0) of 7 points", new BlockPartitions(7).code(0), 1754760);
        Due.due("code(1) of 7 points", new BlockPartitions(7).code(1), 1754760);
        Due.due("code(1) of 1 point", new BlockPartitions(1).code(1), 0);
    }

    // Promise 2

    private static void putOfNone() {
        for (int n = 1; n <= 7; n++) {
            for (int code : noCodes(n)) {
                int[] finest = Reference.alone(n);
                int[] mixed = Reference.evenAndOdd(n);
                Watch.refuses(finest, mixed, "put(0, " + code + ")", x -> x.put(0, code), BAD_ARG);
                Watch.refuses(finest, mixed, "put(1, " + code + ")", x -> x.put(1, code), BAD_ARG);
            }
        }
    }

    /** Codes just beside those of partitions, by one digit, by a digit too many or by the sign, and extreme ones. */
    private static Set<Integer> noCodes(int n) {
        Set<Integer> none = new TreeSet<>();
        Set<Integer> codes = new TreeSet<>();
        for (int[] numbers : Reference.all(n)) {
            codes.add(Due.code(numbers));
        }
        for (int[] numbers : extremes(n)) {
            int code = Due.code(numbers);
            for (int i = 0; i < n; i++) {
                for (int digit = 0; digit < 8; digit++) {
                    int[] changed = numbers.clone();
                    changed[i] = digit;
                    none.add(Due.code(changed));
                }
            }
            for (int bit = 3 * n; bit < 32; bit++) {
                none.add(code | 1 << bit);
            }
            none.add(-code);
            none.add(~code);
        }
        none.addAll(List.of(MIN, MIN + 1, MIN + 8, MAX, MAX - 7, -1, -8, BAD_ARG, NONE, 1 << 30));
        none.removeAll(codes);
        return none;
    }

    private static void putOfEach() {
        for (int n = 1; n <= 7; n++) {
            for (int[] numbers : Reference.all(n)) {
                int code = Due.code(numbers);
                Watch.changes(0, Reference.alone(n), numbers, "put(0, " + code + ")", x -> x.put(0, code));
                Watch.changes(1, Reference.whole(n), numbers, "put(1, " + code + ")", x -> x.put(1, code));
            }
            Due.due("put of the least code of " + n, new BlockPartitions(n).put(0, 0), 1);
            int greatest = Due.code(Reference.alone(n));
            Due.due("put of the greatest code of " + n, new BlockPartitions(n).put(1, greatest), n);
        }
    }

    // Promise 3

    private static void mergeOfOneBlock() {
        for (int n = 1; n <= 7; n++) {
            for (int e = 0; e < 2; e++) {
                mergeWithItself(n, e);
                mergeEnds(n, e);
            }
        }
        Watch.changes(0, p(0, 1, 0, 1, 0, 1, 2), p(0, 0, 0, 0, 0, 0, 1), "merge(0, 5, 4)", x -> x.merge(0, 5, 4));
    }

    private static void mergeWithItself(int n, int e) {
        for (int[] numbers : extremes(n)) {
            for (int i = 0; i < n; i++) {
                int point = i;
                Watch.changes(e, numbers, numbers, "merge of " + i + " with itself", x -> x.merge(e, point, point));
            }
        }
    }

    private static void mergeEnds(int n, int e) {
        int last = n - 1;
        int[] ends = Reference.endsTogether(n);
        for (int[] numbers : List.of(Reference.alone(n), ends)) {
            Watch.changes(e, numbers, ends, "merge of the first and the last point", x -> x.merge(e, 0, last));
            Watch.changes(e, numbers, ends, "merge of the last and the first point", x -> x.merge(e, last, 0));
        }
    }

    private static void mergeOfAll() {
        for (int n = 1; n <= 7; n++) {
            for (int e = 0; e < 2; e++) {
                BlockPartitions x = new BlockPartitions(n);
                for (int i = n - 1; i > 0; i--) {
                    Due.due("merge of " + i + " and " + (i - 1) + " of " + n, x.merge(e, i, i - 1), i);
                }
                Due.due("merge of the whole " + n, x.merge(e, n - 1, 0), 1);
                Due.due("code of the whole " + n, x.code(e), 0);
            }
        }
    }

    // Promise 4

    private static void moveToItself() {
        for (int n = 1; n <= 7; n++) {
            for (int[] numbers : extremes(n)) {
                for (int i = 0; i < n; i++) {
                    int point = i;
                    int[] marks = numbers.clone();
                    marks[i] = 9;
                    int[] left = Reference.numbered(marks);
                    Watch.changes(0, numbers, left, "move(0, " + i + ", " + i + ")", x -> x.move(0, point, point));
                    Watch.changes(1, numbers, left, "move(1, " + i + ", " + i + ")", x -> x.move(1, point, point));
                }
            }
        }
        Watch.changes(0, p(0), p(0), "move(0, 0, 0)", x -> x.move(0, 0, 0));
        Watch.changes(1, p(0, 0), p(0, 1), "move(1, 0, 0)", x -> x.move(1, 0, 0));
        Watch.changes(0, p(0, 1, 2, 3, 4, 5, 5), p(0, 1, 2, 3, 4, 5, 6), "move(0, 5, 5)", x -> x.move(0, 5, 5));
    }

    private static void moveWithinABlock() {
        for (int n = 1; n <= 7; n++) {
            int last = n - 1;
            int[] whole = Reference.whole(n);
            int[] ends = Reference.endsTogether(n);
            for (int e = 0; e < 2; e++) {
                int element = e;
                Watch.changes(e, ends, ends, "move within a block", x -> x.move(element, 0, last));
                if (n > 1) {
                    Watch.changes(e, whole, whole, "move within the whole", x -> x.move(element, last, 0));
                    Watch.changes(e, whole, whole, "move within the whole", x -> x.move(element, 0, last));
                }
            }
        }
        // The others of its block stay behind.
        Watch.changes(0, p(0, 0, 0, 1, 1, 1, 1), p(0, 1, 1, 0, 0, 0, 0), "move(0, 0, 6)", x -> x.move(0, 0, 6));
        Watch.changes(1, p(0, 0, 0, 1, 1, 1, 1), p(0, 0, 0, 1, 1, 1, 0), "move(1, 6, 0)", x -> x.move(1, 6, 0));
    }

    // Promise 5

    private static void turnOfTheLast() {
        for (int e = 0; e < 2; e++) {
            int element = e;
            Watch.changes(e, p(0, 0, 0, 0, 0, 0, 1), p(0, 1, 1, 1, 1, 1, 1), "turn", x -> x.turn(element));
            Watch.changes(e, p(0, 1, 2, 3, 4, 5, 5), p(0, 1, 2, 3, 4, 5, 0), "turn", x -> x.turn(element));
            Watch.changes(e, p(0, 1, 2, 3, 4, 5, 0), p(0, 0, 1, 2, 3, 4, 5), "turn", x -> x.turn(element));
            Watch.changes(e, p(0, 0, 1), p(0, 1, 1), "turn", x -> x.turn(element));
            Watch.changes(e, p(0, 1), p(0, 1), "turn", x -> x.turn(element));
            Watch.changes(e, p(0), p(0), "turn", x -> x.turn(element));
        }
        for (int n = 2; n <= 7; n++) {
            int[] lastAlone = Reference.whole(n);
            lastAlone[n - 1] = 1;
            int[] firstAlone = new int[n];
            Arrays.fill(firstAlone, 1, n, 1);
            Watch.changes(0, lastAlone, firstAlone, "turn(0)", x -> x.turn(0));
            Watch.changes(1, lastAlone, firstAlone, "turn(1)", x -> x.turn(1));
        }
    }

    private static void turnOfEach() {
        for (int n = 1; n <= 7; n++) {
            for (int[] numbers : Reference.all(n)) {
                int[] marks = new int[n];
                for (int i = 0; i < n; i++) {
                    marks[(i + 1) % n] = numbers[i];
                }
                int[] turned = Reference.numbered(marks);
                Watch.changes(0, numbers, turned, "turn(0)", x -> x.turn(0));
                Watch.changes(1, numbers, turned, "turn(1)", x -> x.turn(1));
            }
        }
    }

    // Promises 6 to 9

    private static void meetOfExtremes() {
        for (int n = 1; n <= 7; n++) {
            int[] alone = Reference.alone(n);
            int[] whole = Reference.whole(n);
            for (int[] numbers : Reference.all(n)) {
                combines(numbers, whole, numbers, "meet()", x -> x.meet());
                combines(whole, numbers, numbers, "meet()", x -> x.meet());
                combines(numbers, alone, alone, "meet()", x -> x.meet());
                combines(alone, numbers, alone, "meet()", x -> x.meet());
                combines(numbers, numbers, numbers, "meet()", x -> x.meet());
            }
        }
        combines(p(0, 0, 0, 1, 1, 1, 1), p(0, 1, 1, 1, 0, 0, 1), p(0, 1, 1, 2, 3, 3, 2), "meet()", x -> x.meet());
    }

    private static void joinOfExtremes() {
        for (int n = 1; n <= 7; n++) {
            int[] alone = Reference.alone(n);
            int[] whole = Reference.whole(n);
            for (int[] numbers : Reference.all(n)) {
                combines(numbers, whole, whole, "join()", x -> x.join());
                combines(whole, numbers, whole, "join()", x -> x.join());
                combines(numbers, alone, numbers, "join()", x -> x.join());
                combines(alone, numbers, numbers, "join()", x -> x.join());
                combines(numbers, numbers, numbers, "join()", x -> x.join());
            }
        }
        // Each point is linked with the next one, now in one element, now in the other.
        combines(p(0, 0, 1, 1, 2, 2, 3), p(0, 1, 1, 2, 2, 3, 3), Reference.whole(7), "join()", x -> x.join());
        combines(p(0, 0, 1, 1, 2, 2, 3), p(0, 1, 2, 3, 3, 4, 0), p(0, 0, 1, 1, 1, 1, 0), "join()", x -> x.join());
    }

    /** Element 0 becomes this partition, which is answered, and element 1 stays. */
    private static void combines(int[] first, int[] second, int[] to, String name, Watch.Call call) {
        BlockPartitions x = Watch.with(first, second);
        String text = name + textOf(first, second);
        Due.due(text, call.on(x), Reference.blocks(to));
        Watch.elements(text, x, to, second);
    }

    private static void uncrossOfExtremes() {
        for (int n = 1; n <= 7; n++) {
            for (int[] numbers : Reference.all(n)) {
                if (!Reference.isCrossing(numbers)) {
                    Watch.changes(0, numbers, numbers, "uncross(0) without a crossing", x -> x.uncross(0));
                    Watch.changes(1, numbers, numbers, "uncross(1) without a crossing", x -> x.uncross(1));
                }
            }
        }
        for (int n = 4; n <= 7; n++) {
            Watch.changes(0, Reference.evenAndOdd(n), Reference.whole(n), "uncross(0)", x -> x.uncross(0));
            Watch.changes(1, Reference.evenAndOdd(n), Reference.whole(n), "uncross(1)", x -> x.uncross(1));
        }
        // The last two cross at first only with a block between them.
        Watch.changes(0, p(0, 1, 0, 2, 1, 2, 3), p(0, 0, 0, 0, 0, 0, 1), "uncross(0)", x -> x.uncross(0));
        Watch.changes(1, p(0, 1, 2, 3, 4, 0, 1), p(0, 0, 1, 2, 3, 0, 0), "uncross(1)", x -> x.uncross(1));
        Watch.changes(0, p(0, 1, 2, 3, 2, 3, 0), p(0, 1, 2, 2, 2, 2, 0), "uncross(0)", x -> x.uncross(0));
    }

    private static void complementOfACrossing() {
        refusesCrossings("complement", (x, e) -> x.complement(e));
    }

    private static void refusesCrossings(String name, ElementCall call) {
        for (int n = 1; n <= 7; n++) {
            int[] ends = Reference.endsTogether(n);
            int seen = 0;
            for (int[] numbers : Reference.all(n)) {
                if (Reference.isCrossing(numbers)) {
                    seen++;
                    Watch.refuses(numbers, ends, name + "(0)", x -> call.of(x, 0), NONE);
                    Watch.refuses(ends, numbers, name + "(1)", x -> call.of(x, 1), NONE);
                    Watch.refuses(numbers, numbers, name + "(1)", x -> call.of(x, 1), NONE);
                    // The other element's crossing is no reason to refuse.
                    Due.due(name + "(1) beside a crossing", call.of(Watch.with(numbers, ends), 1) > 0 ? 1 : 0, 1);
                    Due.due(name + "(0) beside a crossing", call.of(Watch.with(ends, numbers), 0) > 0 ? 1 : 0, 1);
                }
            }
            Due.due("crossings of " + n + " points", seen, MANY[n] - MANY_UNCROSSED[n]);
        }
    }

    private static void complementOfExtremes() {
        for (int n = 1; n <= 7; n++) {
            int[] alone = Reference.alone(n);
            int[] whole = Reference.whole(n);
            for (int e = 0; e < 2; e++) {
                int element = e;
                Watch.changes(e, alone, whole, "complement", x -> x.complement(element));
                Watch.changes(e, whole, alone, "complement", x -> x.complement(element));
            }
        }
        // A block of the first k points leaves the points before its last one alone.
        Watch.changes(0, p(0, 0, 0, 1, 2, 3, 4), p(0, 1, 2, 2, 2, 2, 2), "complement(0)", x -> x.complement(0));
        Watch.changes(1, p(0, 1, 2, 3, 4, 5, 0), p(0, 0, 0, 0, 0, 0, 1), "complement(1)", x -> x.complement(1));
        Watch.changes(0, p(0, 1, 2, 3, 4, 5, 5), p(0, 0, 0, 0, 0, 1, 0), "complement(0)", x -> x.complement(0));
        Watch.changes(1, p(0, 0), p(0, 1), "complement(1)", x -> x.complement(1));
    }

    // Promises 10 to 15, and 20

    private static void leastAndGreatestCode() {
        int[] greatest = {0, 0, 8, 136, 1672, 18056, 181896, 1754760};
        for (int n = 1; n <= 7; n++) {
            answersOfEach(Reference.whole(n), "code", (x, e) -> x.code(e), 0);
            answersOfEach(Reference.alone(n), "code", (x, e) -> x.code(e), greatest[n]);
        }
        answersOfEach(p(0, 0, 0, 0, 0, 0, 1), "code", (x, e) -> x.code(e), 262144);
        answersOfEach(p(0, 1, 0, 0, 0, 0, 0), "code", (x, e) -> x.code(e), 8);
    }

    private static void fewestAndMostBlocks() {
        for (int n = 1; n <= 7; n++) {
            answersOfEach(Reference.whole(n), "blocks", (x, e) -> x.blocks(e), 1);
            answersOfEach(Reference.alone(n), "blocks", (x, e) -> x.blocks(e), n);
        }
        answersOfEach(p(0, 1, 2, 3, 4, 5, 0), "blocks", (x, e) -> x.blocks(e), 6);
        answersOfEach(p(0, 0, 0, 0, 0, 0, 1), "blocks", (x, e) -> x.blocks(e), 2);
    }

    private static void leastAndGreatestSize() {
        for (int n = 1; n <= 7; n++) {
            for (int i = 0; i < n; i++) {
                int point = i;
                int ends = n > 1 && (i == 0 || i == n - 1) ? 2 : 1;
                answersOfEach(Reference.whole(n), "size of " + i, (x, e) -> x.size(e, point), n);
                answersOfEach(Reference.alone(n), "size of " + i, (x, e) -> x.size(e, point), 1);
                answersOfEach(Reference.endsTogether(n), "size of " + i, (x, e) -> x.size(e, point), ends);
            }
        }
    }

    private static void crossesAtEachNumberOfPoints() {
        for (int n = 1; n <= 7; n++) {
            int none = 0;
            for (int[] numbers : Reference.all(n)) {
                boolean crossing = Reference.isCrossing(numbers);
                none += crossing ? 0 : 1;
                answersOfEach(numbers, "crosses", (x, e) -> x.crosses(e), crossing ? 1 : 0);
            }
            Due.due("partitions of " + n + " points without a crossing", none, MANY_UNCROSSED[n]);
        }
    }

    private static void firstAndLastRank() {
        for (int n = 1; n <= 7; n++) {
            answersOfEach(Reference.whole(n), "rank", (x, e) -> x.rank(e), 0);
            answersOfEach(Reference.alone(n), "rank", (x, e) -> x.rank(e), MANY[n] - 1);
        }
    }

    private static void partitionOfNone() {
        for (int n = 1; n <= 7; n++) {
            int many = MANY[n];
            int[] none = {-1, -2, -many, -1 - many, MIN, MIN + 1, MIN + many, BAD_ARG, NONE, many, many + 1, 877, 878, 1 << 30, 65536, MAX - 1, MAX};
            for (int k : none) {
                for (int[] numbers : List.of(Reference.alone(n), Reference.whole(n))) {
                    Watch.refuses(numbers, Reference.evenAndOdd(n), "partition(" + k + ")", x -> x.partition(k), NONE);
                }
            }
        }
    }

    private static void firstAndLastPartition() {
        for (int n = 1; n <= 7; n++) {
            int last = MANY[n] - 1;
            for (int[] numbers : List.of(Reference.alone(n), Reference.whole(n), Reference.evenAndOdd(n))) {
                answers(numbers, Reference.endsTogether(n), "partition(0)", x -> x.partition(0), 0);
                int greatest = Due.code(Reference.alone(n));
                answers(numbers, Reference.endsTogether(n), "partition(" + last + ")", x -> x.partition(last), greatest);
            }
        }
    }

    private static void uncrossedOfACrossing() {
        refusesCrossings("uncrossed", (x, e) -> x.uncrossed(e));
    }

    private static void fewestAndMostUncrossed() {
        for (int n = 1; n <= 7; n++) {
            answersOfEach(Reference.alone(n), "uncrossed", (x, e) -> x.uncrossed(e), 1);
            answersOfEach(Reference.whole(n), "uncrossed", (x, e) -> x.uncrossed(e), MANY_UNCROSSED[n]);
        }
    }

    // Promises 16 to 19

    private static void finerOfExtremes() {
        for (int n = 1; n <= 7; n++) {
            for (int[] numbers : Reference.all(n)) {
                answers(Reference.alone(n), numbers, "finer()", x -> x.finer(), 1);
                answers(numbers, Reference.whole(n), "finer()", x -> x.finer(), 1);
            }
            for (int[][] pair : notFiner(n)) {
                answers(pair[0], pair[1], "finer()", x -> x.finer(), 0);
            }
        }
        answers(p(0, 1, 2, 3, 4, 5, 0), p(0, 0, 0, 0, 0, 0, 1), "finer()", x -> x.finer(), 0);
    }

    private static void intervalOfNotFiner() {
        for (int n = 2; n <= 7; n++) {
            for (int[][] pair : notFiner(n)) {
                answers(pair[0], pair[1], "interval()", x -> x.interval(), 0);
            }
        }
        answers(Reference.whole(7), Reference.alone(7), "interval()", x -> x.interval(), 0);
    }

    private static void leastAndGreatestInterval() {
        for (int n = 1; n <= 7; n++) {
            answers(Reference.alone(n), Reference.whole(n), "interval()", x -> x.interval(), MANY[n]);
            answers(Reference.alone(n), Reference.endsTogether(n), "interval()", x -> x.interval(), n == 1 ? 1 : 2);
        }
    }

    private static void fullChainsOfNotFiner() {
        for (int n = 2; n <= 7; n++) {
            for (int[][] pair : notFiner(n)) {
                answers(pair[0], pair[1], "fullChains()", x -> x.fullChains(), 0);
            }
        }
        answers(Reference.whole(7), Reference.alone(7), "fullChains()", x -> x.fullChains(), 0);
    }

    private static void fewestAndMostFullChains() {
        // Each step merges two of the blocks there are: n (n - 1) / 2 ways, then one block fewer.
        int[] most = {1, 1, 1, 3, 18, 180, 2700, 56700};
        for (int n = 1; n <= 7; n++) {
            answers(Reference.alone(n), Reference.whole(n), "fullChains()", x -> x.fullChains(), most[n]);
            answers(Reference.alone(n), Reference.alone(n), "fullChains()", x -> x.fullChains(), 1);
        }
    }

    private static void signOfExtremes() {
        int[] signs = {1, 1, -1, 2, -6, 24, -120, 720};
        for (int n = 1; n <= 7; n++) {
            answers(Reference.alone(n), Reference.whole(n), "sign()", x -> x.sign(), signs[n]);
        }
    }
}
