/** Promises 24 to 29: what was watched, and the book. */
public final class WatchedTest {
    private static final Check T = new Check();
    private static final String FOUR = "k100;p13 6 0 3;p12 4 2 5;p29 2 1 9;p13 0 8 1;d1 0 2;d0 1 4;d2 3 6;d0 3 9;";

    public static void main(String[] args) {
        watch();
        fits();
        lookOn();
        lookOnOfLikeOnes();
        write();
        tear();
        judge();
        T.end();
    }

    private static void watch() {
        T.promise(24);
        DoubleChain x = new DoubleChain();
        T.due("watch(0, true), no court", x.watch(0, true), Check.UNKNOWN);
        x = Check.of("k1;");
        T.due("watch(0, true), no day told", x.watch(0, true), Check.UNKNOWN);
        x = Check.of("k1;d0 0 0;d1 0 0;");
        T.due("watch(2, true)", x.watch(2, true), Check.UNKNOWN);
        T.due("watch(-1, true)", x.watch(-1, true), Check.UNKNOWN);
        for (int i = 1; i <= 8; i++) {
            T.due("watch(" + i % 2 + ", false)", x.watch(i % 2, false), i);
        }
        T.due("watch(0, true), the ninth", x.watch(0, true), Check.FULL);
        T.due("watch(2, true), the ninth", x.watch(2, true), Check.UNKNOWN);
        T.due("told(9)", x.told(9), 8);
    }

    private static void fits() {
        T.promise(25);
        T.due("fits(), no court", new DoubleChain().fits(), 0);
        T.due("fits(), nobody", Check.of("k1;").fits(), 0);
        DoubleChain x = Check.of(FOUR);
        T.due("fits(), nothing watched", x.fits(), 15);
        x.watch(0, false);
        T.due("fits()", x.fits(), 1 + 4 + 8);
        x.watch(3, false);
        T.due("fits()", x.fits(), 1 + 8);
        x.attempt();
        x.attempt();
        x.day(3);
        x.attempt();
        T.due("told(5)", x.told(5), 1 + 8);
        T.due("fits() on another day", x.fits(), 1 + 8);
        x.tear();
        x.watch(0, true);
        T.due("fits(), a dead one", x.fits(), 2);
        x.hire();
        T.due("fits(), and one hired", x.fits(), 2 + 16);
        x.undo();
        T.due("fits(), he is none now", x.fits(), 2);
        x.watch(0, false);
        T.due("fits(), out and in", x.fits(), 0);
    }

    private static void lookOn() {
        T.promise(26);
        T.due("lookOn(), no court", new DoubleChain().lookOn(), -1);
        T.due("lookOn(), nobody", Check.of("k1;d0 0 0;").lookOn(), -1);
        T.due("lookOn(), the king alone", Check.of("k1;p0 0 0 0;d0 0 0;d0 0 9;").lookOn(), -1);
        T.due("lookOn(), no day told", Check.of("k1;p0 0 0 0;p0 7 0 0;").lookOn(), -1);
        T.due("lookOn(), like ones", Check.of("k1;p0 0 0 0;p1 0 0 0;d0 0 0;d0 0 9;").lookOn(), -1);
        DoubleChain x = Check.of("k1;p0 0 0 0;p0 0 0 1;p0 0 0 2;p0 0 0 3;p0 0 0 4;d0 0 0;d0 0 1;d0 0 4;d0 0 3;d0 0 2;");
        T.due("lookOn(): 2 in, 3 out on day 4", x.lookOn(), 3);
        x.watch(3, false);
        T.due("fits()", x.fits(), 7);
        T.due("lookOn(): 1 in, 2 out on day 1", x.lookOn(), 1);
        x.watch(1, true);
        T.due("fits()", x.fits(), 6);
        T.due("lookOn()", x.lookOn(), 4);
        x.watch(4, true);
        T.due("lookOn(): one alone", x.lookOn(), -1);
        x.watch(4, false);
        T.due("lookOn(): none fits", x.lookOn(), -1);
    }

    private static void lookOnOfLikeOnes() {
        T.promise(26);
        DoubleChain x = Check.of("k1;p0 0 0 0;p0 0 0 1;p0 0 0 2;p0 0 0 3;d0 0 0;d0 0 1;d0 0 3;d0 0 2;d0 0 2;");
        T.due("lookOn(): 3 of 4 are alike on 1 and 2", x.lookOn(), 3);
        x = Check.of("k1;p0 0 0 0;p0 0 0 1;p0 0 0 2;p0 0 0 3;d0 0 0;d0 0 3;d0 0 1;");
        T.due("lookOn(): one out parts as one in", x.lookOn(), 1);
        x = Check.of("k1;p0 0 0 0;p0 0 0 1;p0 0 0 2;p0 0 0 3;d0 0 0;d0 0 1;d0 0 3;");
        T.due("lookOn(): one in parts as one out", x.lookOn(), 1);
        x = Check.of("k1;p0 1 0 0;p0 0 1 9;d1 0 0;d1 1 9;");
        x.day(1);
        x.attempt();
        x.attempt();
        T.due("lookOn(): the dead, too", x.lookOn(), 0);
    }

    private static void write() {
        T.promise(27);
        DoubleChain x = new DoubleChain();
        T.due("write(0, 0), no court", x.write(0, 0), Check.UNKNOWN);
        x = Check.of("k1;p0 0 0 0;p1 0 0 0;");
        T.due("write(2, 0)", x.write(2, 0), Check.UNKNOWN);
        T.due("write(-1, 0)", x.write(-1, 0), Check.UNKNOWN);
        T.due("write(2, 256)", x.write(2, 256), Check.UNKNOWN);
        T.due("write(1, 256)", x.write(1, 256), Check.OUTSIDE);
        T.due("write(1, -1)", x.write(1, -1), Check.OUTSIDE);
        x.attempt();
        for (int i = 1; i <= 15; i++) {
            T.due("write(" + i % 2 + ", " + i * 17 + ")", x.write(i % 2, i * 17), i);
        }
        T.due("write(0, 0), the sixteenth", x.write(0, 0), Check.FULL);
        T.due("write(0, 256), the sixteenth", x.write(0, 256), Check.OUTSIDE);
        T.due("write(2, 256), the sixteenth", x.write(2, 256), Check.UNKNOWN);
        T.due("told(10)", x.told(10), 15);
    }

    private static void tear() {
        T.promise(28);
        DoubleChain x = new DoubleChain();
        T.due("tear(), no court", x.tear(), 0);
        x = Check.of("k1;p0 0 0 0;d0 0 0;");
        x.watch(0, false);
        x.watch(0, false);
        x.write(0, 1);
        T.due("judge()", x.judge(), 0);
        T.due("tear()", x.tear(), 3);
        T.due("tear() again", x.tear(), 0);
        T.due("told(9)", x.told(9), 0);
        T.due("told(10)", x.told(10), 0);
        T.due("judge()", x.judge(), -1);
        T.due("fits()", x.fits(), 1);
        T.due("watch(0, true)", x.watch(0, true), 1);
        T.due("write(0, 0)", x.write(0, 0), 1);
        T.due("judge()", x.judge(), -1);
        T.due("tear()", x.tear(), 2);
    }

    private static void judge() {
        T.promise(29);
        T.due("judge(), no court", new DoubleChain().judge(), -1);
        DoubleChain x = Check.of("k1;p3 0 0 9;p1 0 0 0;");
        x.write(1, 1);
        x.write(0, 3);
        T.due("judge(), all is so", x.judge(), -1);
        x.write(0, 2);
        x.write(0, 7);
        T.due("judge(), the third is wrong", x.judge(), 2);
        x.day(1);
        T.due("judge(), marks were copied", x.judge(), 0);
        x.undo();
        T.due("judge(), they were not", x.judge(), 2);
        x.tear();
        x.attempt();
        x.write(0, 3);
        T.due("judge(), of a dead one", x.judge(), -1);
        x.hire();
        x.write(2, 1);
        T.due("judge(), of one hired", x.judge(), -1);
        x.undo();
        T.due("judge(), he is none now", x.judge(), 1);
        x.hire();
        T.due("judge(), he is one again", x.judge(), -1);
        x.undo();
        x.day(1);
        x.undo();
        T.due("judge(), he is none now", x.judge(), 1);
    }
}
