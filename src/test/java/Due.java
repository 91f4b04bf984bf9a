/** What the tests share: comparing answers with those due, and codes from block numbers. */
final class Due {
    private static final int MOST_SHOWN = 20;
    private static int wrong = 0;
    private static int shown = 0;
    private static long calls = 0;
    private static String about = "";

    private Due() {
    }

    static void due(String call, long got, long want) {
        calls++;
        if (got != want) {
            fault(call + " answered " + got + ", due is " + want);
        }
    }

    /** Runs the test of one of the document's sentences; it must look at some answers, and not throw. */
    static void sentence(String words, Runnable test) {
        about = "\"" + words + "\": ";
        shown = 0;
        long before = calls;
        try {
            test.run();
        } catch (RuntimeException | StackOverflowError thrown) {
            fault("threw " + thrown);
        }
        if (calls == before) {
            fault("no answer was looked at");
        }
        about = "";
    }

    private static void fault(String text) {
        wrong++;
        shown++;
        if (shown <= MOST_SHOWN) {
            System.out.println(about + text);
        }
    }

    static void end() {
        System.out.println(calls + " answers looked at, " + wrong + " not as due");
        if (wrong != 0) {
            System.exit(1);
        }
    }

    /** The code of the partition with these block numbers, from point 0 on. */
    static int code(int... numbers) {
        int sum = 0;
        int weight = 1;
        for (int number : numbers) {
            sum += weight * number;
            weight *= 8;
        }
        return sum;
    }
}
