/** Counts the answers that are not the ones due, and makes courts of texts. */
final class Check {
    static final int NONE = -1;
    static final int UNKNOWN = -1000000001;
    static final int OUTSIDE = -1000000002;
    static final int NOT = -1000000003;
    static final int FULL = -1000000004;

    private int wrong = 0;
    private int promise = 0;

    /** The promise that the next answers belong to. */
    void promise(int number) {
        promise = number;
    }

    void due(String call, int got, int want) {
        if (got != want) {
            wrong++;
            System.out.println("promise " + promise + ": " + call + " answered " + got + ", due is " + want);
        }
    }

    void same(String what, String got, String want) {
        if (!got.equals(want)) {
            wrong++;
            System.out.println("promise " + promise + ": " + what + " is\n" + got + "due is\n" + want);
        }
    }

    void end() {
        if (wrong != 0) {
            System.exit(1);
        }
    }

    static void feed(DoubleChain x, String text) {
        for (int i = 0; i < text.length(); i++) {
            x.feed(text.charAt(i));
        }
    }

    static DoubleChain of(String text) {
        DoubleChain x = new DoubleChain();
        feed(x, text);
        if (x.court() < 0) {
            throw new IllegalStateException("the text has a fault at " + x.fault() + ": " + text);
        }
        return x;
    }

    /** So many clauses of like people. */
    static String people(int many, String one) {
        return ("p" + one + ";").repeat(many);
    }

    /** What a draw makes of a seed. */
    static long next(long seed) {
        return (seed * 1103515245L + 12345L) % 2147483648L;
    }

    /** The least seed whose draw of 100 is a number. */
    static int seedThatDraws(int number) {
        int seed = 0;
        while (next(seed) / 65536 % 100 != number) {
            seed++;
        }
        return seed;
    }
}
