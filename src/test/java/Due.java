/** What the tests share: comparing answers with those due, and codes from block numbers. */
final class Due {
    private static final int MOST_SHOWN = 50;
    private static int wrong = 0;
    private static long calls = 0;

    private Due() {
    }

    static void due(String call, long got, long want) {
        calls++;
        if (got != want) {
            wrong++;
            if (wrong <= MOST_SHOWN) {
                System.out.println(call + " answered " + got + ", due is " + want);
            }
        }
    }

    static void end() {
        System.out.println(calls + " answers looked at, " + wrong + " not as due");
        if (wrong != 0) {
            System.exit(1);
        }
    }

    /** The code of the partition with these block numbers, from point 0 on. */
    static int code(int... numbers) {
        int sum = 0;
        int weight = 1;
        for (int number : numbers) {
            sum += weight * number;
            weight *= 8;
        }
        return sum;
    }
}
