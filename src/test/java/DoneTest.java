/** Promises 8 to 12: what is done. */
public final class DoneTest {
    private static final Check T = new Check();

    public static void main(String[] args) {
        dayRefused();
        dayShowsAndPays();
        spentAtMost();
        dayCopies();
        attempt();
        attemptMovesUp();
        hire();
        drift();
        driftEdges();
        undo();
        undoKeepsTwenty();
        undoTakesAllBack();
        T.end();
    }

    private static void dayRefused() {
        T.promise(8);
        DoubleChain x = new DoubleChain();
        T.due("day(0), no court", x.day(0), Check.OUTSIDE);
        T.due("day(61), no court", x.day(61), Check.OUTSIDE);
        T.due("day(60), no court", x.day(60), Check.NOT);
        x = Check.of("k1;");
        T.due("day(60), nobody", x.day(60), 0);
        T.due("told(4)", x.told(4), 60);
        T.due("day(-1)", x.day(-1), Check.OUTSIDE);
        T.due("told(11)", x.told(11), 1);
        for (int i = 1; i < 150; i++) {
            x.day(60);
        }
        T.due("told(4)", x.told(4), 9000);
        T.due("drift(60) at 9000", x.drift(60), 0);
        T.due("told(4)", x.told(4), 9060);
        x.undo();
        T.due("day(1) at 9000", x.day(1), 0);
        T.due("day(1) at 9001", x.day(1), Check.FULL);
        T.due("day(61) at 9001", x.day(61), Check.OUTSIDE);
        T.due("drift(1) at 9001", x.drift(1), Check.FULL);
        T.due("drift(0) at 9001", x.drift(0), Check.OUTSIDE);
        T.due("told(4)", x.told(4), 9001);
        x.undo();
        T.due("day(60) at 9000", x.day(60), 0);
        T.due("told(4)", x.told(4), 9060);
    }

    private static void dayShowsAndPays() {
        T.promise(8);
        DoubleChain x = Check.of("k7;p0 1 0 9;p0 0 0 2;p0 0 0 5;d0 0 0;d1 0 0;d0 0 5;d0 0 9;");
        T.due("day(1)", x.day(1), 11);
        T.due("told(6): the double is shown", x.told(6), 2);
        T.due("day(1)", x.day(1), 22);
        T.due("told(6): and the king", x.told(6), 3);
        T.due("day(2)", x.day(2), 44);
        T.due("told(6): and who fears less", x.told(6), 7);
        T.due("told(4)", x.told(4), 4);
        T.due("told(7), round again", x.told(7), 1);
        x.attempt();
        T.due("day(1), one less", x.day(1), 54);
        T.due("told(6)", x.told(6), 7);
        x = Check.of("k7;p0 1 0 9;p0 0 0 2;d0 0 9;");
        x.day(3);
        T.due("told(6): nobody is seen", x.told(6), 0);
    }

    private static void spentAtMost() {
        T.promise(8);
        DoubleChain x = Check.of("k999;" + "p0 0 0 0;".repeat(8));
        T.due("day(1) of eight", x.day(1), 1986);
        for (int i = 0; i < 8; i++) {
            x.day(60);
        }
        T.due("day(22)", x.day(22), 503 * 1986);
        T.due("day(1)", x.day(1), 999999);
        T.due("day(60)", x.day(60), 999999);
        x.undo();
        x.undo();
        T.due("told(8)", x.told(8), 503 * 1986);
    }

    private static void dayCopies() {
        T.promise(8);
        DoubleChain x = Check.of("k1;p160 0 0 0;p7 0 0 0;p7 0 0 0;p8 0 0 0;");
        dueMarks(x, 160, 7, 7, 8);
        x.day(1);
        dueMarks(x, 160, 7 | 32, 7, 9);
        x.day(1);
        dueMarks(x, 160, 7 | 160, 7 | 32, 11);
        x.day(1);
        dueMarks(x, 160, 6 | 160, 7 | 160, 15);
        x.day(1);
        dueMarks(x, 160, 4 | 160, 6 | 160, 47);
        x.day(1);
        dueMarks(x, 160, 160, 4 | 160, 47 | 128);
        // The mark that is lost is the least of his own: 1 is none of his.
        x = Check.of("k1;p0 0 0 0;p200 0 0 0;p0 0 0 0;");
        x.day(1);
        dueMarks(x, 0, 192, 8);
        x.day(1);
        dueMarks(x, 0, 128, 8 | 64);
        x.day(1);
        dueMarks(x, 0, 0, 8 | 64 | 128);
        x.day(1);
        dueMarks(x, 0, 0, 64 | 128);
        x = Check.of("k1;p1 0 0 0;p2 0 0 0;p4 0 0 0;p8 0 0 0;p16 0 0 0;p32 0 0 0;p64 0 0 0;p128 0 0 0;");
        x.day(1);
        dueMarks(x, 1, 3, 6, 12, 24, 48, 96, 192);
        x.day(1);
        dueMarks(x, 1, 1, 7, 14, 28, 56, 112, 224);
        // A dead one is no longer ahead, and copies nothing.
        x = Check.of("k1;p1 0 0 0;p2 7 0 0;p4 7 0 0;p64 7 0 0;");
        x.attempt();
        x.day(1);
        dueMarks(x, 1, 2, 6, 64 | 4);
        x = Check.of("k1;p1 7 0 0;p2 0 0 0;p4 7 0 0;p64 7 0 0;");
        x.attempt();
        x.day(1);
        dueMarks(x, 1, 2, 5, 64 | 4);
    }

    private static void dueMarks(DoubleChain x, int... want) {
        for (int p = 0; p < want.length; p++) {
            T.due("marks of " + p + " on day " + x.told(4), x.person(p, 0), want[p]);
        }
    }

    private static void attempt() {
        T.promise(9);
        DoubleChain x = new DoubleChain();
        T.due("attempt(), no court", x.attempt(), Check.NOT);
        x = Check.of("k1;");
        T.due("attempt(), nobody", x.attempt(), -1);
        T.due("told(11)", x.told(11), 1);
        x = Check.of("k9;p0 1 0 9;p0 0 2 9;p0 0 0 0;d0 1 0;d1 0 1;");
        T.due("attempt()", x.attempt(), 2);
        T.due("attempt() again: nobody", x.attempt(), -1);
        T.due("told(5)", x.told(5), 3);
        T.due("told(4)", x.told(4), 0);
        T.due("told(8)", x.told(8), 0);
        T.due("told(6)", x.told(6), 0);
        T.due("told(11)", x.told(11), 2);
        x.day(1);
        T.due("attempt() next day", x.attempt(), 0);
        T.due("attempt() next day", x.attempt(), 1);
        T.due("attempt() next day", x.attempt(), -1);
        T.due("told(5)", x.told(5), 0);
        T.due("told(1)", x.told(1), 3);
    }

    private static void attemptMovesUp() {
        T.promise(9);
        DoubleChain x = Check.of("k64;p0 1 0 9;p0 0 0 9;p0 0 0 9;p0 0 0 9;");
        x.attempt();
        T.due("place of 0", x.person(0, 4), 0);
        T.due("place of 1", x.person(1, 4), -1);
        T.due("place of 2", x.person(2, 4), 1);
        T.due("place of 3", x.person(3, 4), 2);
        T.due("pay of 0", x.person(0, 5), 64);
        T.due("pay of 1", x.person(1, 5), 0);
        T.due("pay of 3", x.person(3, 5), 16);
    }

    private static void hire() {
        T.promise(10);
        DoubleChain x = new DoubleChain();
        T.due("hire(), no court", x.hire(), Check.NOT);
        x = Check.of("k1;");
        T.due("hire(), nobody", x.hire(), Check.NOT);
        T.due("told(11)", x.told(11), 0);
        x = Check.of("k1;p3 0 0 9;p5 0 0 0;p6 7 15 0;d2 3 1;d2 3 0;");
        T.due("hire()", x.hire(), 3);
        int[] want = {6, 0, 0, 9, 3, 0, 1};
        for (int what = 0; what < want.length; what++) {
            T.due("person(3, " + what + ")", x.person(3, what), want[what]);
        }
        T.due("attempt()", x.attempt(), 0);
        T.due("attempt()", x.attempt(), 3);
        T.due("hire(), behind a dead one", x.hire(), 4);
        T.due("person(4, 0): of 2, the last that lives", x.person(4, 0), 6);
        T.due("attempt()", x.attempt(), 4);
        x.day(1);
        T.due("attempt()", x.attempt(), 1);
        x.day(2);
        for (int p = 5; p < 8; p++) {
            T.due("hire()", x.hire(), p);
        }
        T.due("told(1)", x.told(1), 8);
        T.due("told(5)", x.told(5), 4 + 32 + 64 + 128);
        T.due("hire(), a ninth", x.hire(), Check.FULL);
        T.due("told(11)", x.told(11), 11);
        x = Check.of("k1;p77 7 15 0;");
        T.due("hire(), behind the king alone", x.hire(), 1);
        T.due("person(1, 0)", x.person(1, 0), 77);
        x = Check.of("k1;" + "p0 0 0 0;".repeat(8));
        for (int p = 0; p < 8; p++) {
            T.due("attempt()", x.attempt(), p);
        }
        T.due("hire(), all eight are dead", x.hire(), Check.NOT);
    }

    private static void drift() {
        T.promise(11);
        DoubleChain x = new DoubleChain();
        T.due("drift(0), no court", x.drift(0), Check.OUTSIDE);
        T.due("drift(61), no court", x.drift(61), Check.OUTSIDE);
        T.due("drift(60), no court", x.drift(60), Check.NOT);
        T.due("seed(3): nothing was drawn", x.seed(3), 0);
        x = Check.of("k100;p13 6 0 3;p12 4 2 5;p29 2 1 9;p13 0 8 1;d1 0 2;d0 1 4;d2 3 6;d0 3 9;");
        x.seed(3);
        T.due("drift(9)", x.drift(9), 4);
        T.due("told(4)", x.told(4), 9);
        T.due("told(11)", x.told(11), 1);
        T.due("told(8)", x.told(8), 9 * 187);
        T.due("drift(30)", x.drift(30), 3);
        T.due("told(5)", x.told(5), 11);
        T.due("undo()", x.undo(), 1);
        T.due("told(5)", x.told(5), 15);
    }

    /** The seed 0 draws 0, then 68, and becomes 12345, then 1406932606. */
    private static void driftEdges() {
        T.promise(11);
        DoubleChain x = Check.of("k8;p0 0 0 9;p0 0 0 9;p0 0 0 9;d0 0 0;");
        T.due("drift(1), danger 0, 0 drawn", x.drift(1), 3);
        T.due("seed(0)", x.seed(0), 12345);
        x = Check.of("k8;p0 0 0 9;p0 0 0 9;p0 0 0 9;d0 0 1;");
        T.due("drift(1), danger 1, 0 drawn", x.drift(1), 2);
        T.due("told(8): paid behind the attempt", x.told(8), 12);
        T.due("told(6): seen behind the attempt", x.told(6), 2);
        T.due("drift(1), danger 1, 68 drawn", x.drift(1), 2);
        T.due("seed(0)", x.seed(0), 1406932606);
        x = Check.of("k8;p0 0 0 9;");
        T.due("drift(60), no day told: no danger", x.drift(60), 1);
        x = Check.of("k8;p0 0 0 0;d0 0 9;");
        T.due("drift(1), nobody is seen", x.drift(1), 1);
        drawnAsDanger();
    }

    /** An attempt comes below the danger, not at it. */
    private static void drawnAsDanger() {
        DoubleChain x = Check.of("k8;p0 0 0 9;p0 0 0 9;d0 0 5;");
        x.seed(Check.seedThatDraws(4));
        T.due("drift(1), danger 5, 4 drawn", x.drift(1), 1);
        x.undo();
        x.seed(Check.seedThatDraws(5));
        T.due("drift(1), danger 5, 5 drawn", x.drift(1), 2);
    }

    private static void undo() {
        T.promise(12);
        DoubleChain x = new DoubleChain();
        T.due("undo(), no court", x.undo(), Check.NOT);
        x = Check.of("k1;p0 0 0 9;");
        T.due("undo(), nothing done", x.undo(), Check.NOT);
        x.day(0);
        x.drift(61);
        T.due("undo(), nothing but what was refused", x.undo(), Check.NOT);
        x.day(1);
        x.hire();
        x.attempt();
        x.drift(2);
        T.due("undo()", x.undo(), 3);
        T.due("told(4)", x.told(4), 1);
        T.due("undo()", x.undo(), 2);
        T.due("told(5)", x.told(5), 3);
        T.due("undo()", x.undo(), 1);
        T.due("told(1)", x.told(1), 1);
        T.due("undo()", x.undo(), 0);
        T.due("told(4)", x.told(4), 0);
        T.due("undo()", x.undo(), Check.NOT);
    }

    private static void undoKeepsTwenty() {
        T.promise(12);
        DoubleChain x = Check.of("k1;p0 0 0 9;");
        for (int i = 1; i <= 25; i++) {
            x.day(1);
            T.due("told(11)", x.told(11), Math.min(i, 20));
        }
        for (int i = 19; i >= 0; i--) {
            T.due("undo()", x.undo(), i);
            T.due("told(4)", x.told(4), 5 + i);
        }
        T.due("undo()", x.undo(), Check.NOT);
        for (int i = 1; i <= 19; i++) {
            x.day(2);
            T.due("told(11)", x.told(11), i);
        }
        T.due("undo()", x.undo(), 18);
        T.due("told(4)", x.told(4), 5 + 36);
    }

    private static void undoTakesAllBack() {
        T.promise(12);
        DoubleChain x = Check.of("k9;p1 0 0 9;p2 0 0 9;d0 0 9;");
        x.day(1);
        x.seed(0);
        x.watch(0, true);
        x.write(0, 1);
        x.hire();
        x.drift(30);
        int seed = x.seed(0);
        x.seed(seed);
        x.undo();
        x.undo();
        T.due("told(1)", x.told(1), 2);
        T.due("told(4)", x.told(4), 1);
        T.due("told(5)", x.told(5), 3);
        T.due("told(6)", x.told(6), 1);
        T.due("told(8)", x.told(8), 13);
        T.due("person(1, 0)", x.person(1, 0), 3);
        T.due("told(9): it stays watched", x.told(9), 1);
        T.due("told(10): it stays in the book", x.told(10), 1);
        T.due("seed(0): it stays", x.seed(0), seed);
        T.due("person(2, 0)", x.person(2, 0), Check.UNKNOWN);
        T.due("hire()", x.hire(), 2);
        T.due("person(2, 0)", x.person(2, 0), 3);
    }
}
