/** Promises 13 to 23: what is tried. */
public final class TriedTest {
    private static final Check T = new Check();
    private static final String FOUR = "k100;p13 6 0 3;p12 4 2 5;p29 2 1 9;p13 0 8 1;d1 0 2;d0 1 4;d2 3 6;d0 3 9;";

    public static void main(String[] args) {
        would();
        firstNobody();
        send();
        sendLooksAhead();
        byMarks();
        diedAt();
        classes();
        tellKing();
        tellAll();
        reign();
        shownAll();
        apart();
        safe();
        nothingChanges();
        T.end();
    }

    private static void would() {
        T.promise(13);
        DoubleChain x = new DoubleChain();
        T.due("would(0, 0, 0), no court", x.would(0, 0, 0), -1);
        T.due("would(3, 0, 0), no court", x.would(3, 0, 0), Check.OUTSIDE);
        x = Check.of("k1;p0 1 0 3;p0 0 2 5;p0 4 8 9;d1 0 9;");
        T.due("would(0, 0, 0)", x.would(0, 0, 0), 1);
        T.due("would(1, 0, 3)", x.would(1, 0, 3), 0);
        T.due("would(1, 0, 4)", x.would(1, 0, 4), 1);
        T.due("would(0, 1, 0)", x.would(0, 1, 0), 2);
        T.due("would(2, 1, 5)", x.would(2, 1, 5), -1);
        T.due("would(0, 3, 9)", x.would(0, 3, 9), -1);
        T.due("would(1, 2, 9)", x.would(1, 2, 9), 2);
        int[][] outside = {{-1, 0, 0}, {3, 0, 0}, {0, -1, 0}, {0, 4, 0}, {0, 0, -1}, {0, 0, 10}};
        for (int[] o : outside) {
            T.due("would(" + o[0] + ", " + o[1] + ", " + o[2] + ")", x.would(o[0], o[1], o[2]), Check.OUTSIDE);
        }
        x.attempt();
        T.due("would(1, 2, 9), he is dead", x.would(1, 2, 9), -1);
    }

    private static void firstNobody() {
        T.promise(14);
        DoubleChain x = new DoubleChain();
        T.due("firstNobody(0), no court", x.firstNobody(0), -1);
        T.due("firstNobody(1), no court", x.firstNobody(1), 0);
        x = Check.of("k1;p0 0 0 4;d0 0 4;d0 0 3;d0 0 5;d0 0 0;");
        T.due("firstNobody(-1)", x.firstNobody(-1), Check.OUTSIDE);
        T.due("firstNobody(61)", x.firstNobody(61), Check.OUTSIDE);
        T.due("firstNobody(2)", x.firstNobody(2), -1);
        T.due("firstNobody(3)", x.firstNobody(3), 2);
        T.due("firstNobody(60)", x.firstNobody(60), 2);
        x.day(3);
        T.due("firstNobody(3)", x.firstNobody(3), -1);
        T.due("firstNobody(4), the days come round", x.firstNobody(4), 6);
        x.day(3);
        T.due("firstNobody(1), this day", x.firstNobody(1), 6);
        x = Check.of("k1;p0 0 0 0;p0 0 0 0;");
        T.due("firstNobody(60)", x.firstNobody(60), -1);
        x.attempt();
        T.due("firstNobody(60), the double", x.firstNobody(60), -1);
        x.attempt();
        T.due("firstNobody(60), nobody lives", x.firstNobody(60), 0);
    }

    private static void send() {
        T.promise(15);
        DoubleChain x = new DoubleChain();
        T.due("send(0, 0), no court", x.send(0, 0), Check.OUTSIDE);
        T.due("send(1, 0), no court", x.send(1, 0), -1);
        x = Check.of(FOUR);
        T.due("send(0, 0)", x.send(0, 0), Check.OUTSIDE);
        T.due("send(7, 0)", x.send(7, 0), Check.OUTSIDE);
        T.due("send(7, 9)", x.send(7, 9), Check.OUTSIDE);
        dueSent(x, 1, 1);
        dueSent(x, 2, 1, 2);
        dueSent(x, 3, -1, -1, -1);
        dueSent(x, 4, -1, -1, -1, -1);
        T.due("send(2, 2)", x.send(2, 2), -1);
        T.due("send(2, -1)", x.send(2, -1), -1);
        T.due("send(1, 1): another call's day", x.send(1, 1), -1);
        T.due("send(2, 2147483647)", x.send(2, Integer.MAX_VALUE), -1);
        T.due("send(2, -2147483648)", x.send(2, Integer.MIN_VALUE), -1);
        x.day(2);
        dueSent(x, 2, -1, -1);
        x.day(2);
        dueSent(x, 1, 1);
        x = Check.of("k1;" + "p0 0 0 0;".repeat(6));
        dueSent(x, 6, 0, 1, 2, 3, 4, 5);
        dueSent(x, 3, 0, 1, 2, -1, -1, -1);
        x.attempt();
        dueSent(x, 5, 1, 2, 3, 4, 5);
        dueSent(x, 6, -1, -1, -1, -1, -1, -1);
        x.hire();
        dueSent(x, 6, 1, 2, 3, 4, 5, 6);
    }

    private static void sendLooksAhead() {
        T.promise(15);
        // 0 alone goes out on the last day, 1 and 0 on the one ahead of it, and 2 stays in by sun, 3 at hour 1.
        DoubleChain x = Check.of("k1;p0 0 0 9;p0 0 0 5;p0 1 0 3;p0 0 2 3;d0 1 3;d0 0 5;d0 0 9;");
        dueSent(x, 1, 0);
        dueSent(x, 2, 0, 1);
        dueSent(x, 3, -1, -1, -1);
        x = Check.of("k1;p0 0 0 9;p0 0 0 5;p0 2 0 3;p0 0 0 3;d0 1 3;d0 0 5;d0 0 9;d1 0 3;");
        dueSent(x, 3, 2, 1, 0);
        dueSent(x, 4, 2, 1, 0, 3);
        x = Check.of("k1;p0 4 0 9;p0 0 0 1;p0 0 0 1;p0 0 0 1;p0 0 0 1;p0 0 0 1;p0 0 0 1;p0 6 0 1;d0 0 1;d2 0 1;d2 0 1;d2 0 1;d2 0 1;d1 0 1;");
        dueSent(x, 6, 0, 1, 2, 3, 4, 5);
        x = Check.of("k1;p0 4 0 9;p0 6 0 9;p0 0 0 1;p0 0 0 1;d2 0 1;d2 0 1;d0 0 9;d0 0 9;");
        dueSent(x, 4, 2, 3, 0, 1);
        x = Check.of("k1;p0 0 0 9;p0 0 0 9;p0 0 0 1;p0 0 0 1;d0 0 1;d0 0 1;d0 0 9;d0 0 9;");
        dueSent(x, 4, 2, 3, 0, 1);
        x = Check.of("k1;p0 0 0 9;p0 0 0 1;p0 0 0 1;p0 0 0 1;d0 0 1;d0 0 9;d0 0 9;d0 0 1;");
        dueSent(x, 4, -1, -1, -1, -1);
    }

    private static void dueSent(DoubleChain x, int n, int... want) {
        for (int i = 0; i < want.length; i++) {
            T.due("send(" + n + ", " + i + ")", x.send(n, i), want[i]);
        }
    }

    private static void byMarks() {
        T.promise(16);
        DoubleChain x = new DoubleChain();
        T.due("byMarks(0, 0), no court", x.byMarks(0, 0), 0);
        x = Check.of("k1;p3 0 0 0;p6 0 0 0;p255 0 0 0;p0 0 0 0;");
        T.due("byMarks(0, 0)", x.byMarks(0, 0), 15);
        T.due("byMarks(2, 0)", x.byMarks(2, 0), 7);
        T.due("byMarks(3, 0)", x.byMarks(3, 0), 5);
        T.due("byMarks(2, 1)", x.byMarks(2, 1), 2);
        T.due("byMarks(0, 5)", x.byMarks(0, 5), 8);
        T.due("byMarks(1, 1)", x.byMarks(1, 1), 0);
        T.due("byMarks(255, 0)", x.byMarks(255, 0), 4);
        T.due("byMarks(0, 255)", x.byMarks(0, 255), 8);
        int[][] outside = {{-1, 0}, {256, 0}, {0, -1}, {0, 256}};
        for (int[] o : outside) {
            T.due("byMarks(" + o[0] + ", " + o[1] + ")", x.byMarks(o[0], o[1]), Check.OUTSIDE);
        }
        x.attempt();
        T.due("byMarks(1, 0): not the dead", x.byMarks(1, 0), 4);
        x.hire();
        T.due("byMarks(0, 1): and who was hired", x.byMarks(0, 1), 2 + 8 + 16);
    }

    private static void diedAt() {
        T.promise(17);
        DoubleChain x = new DoubleChain();
        T.due("diedAt(0), no court", x.diedAt(0), Check.UNKNOWN);
        x = Check.of("k1;p0 0 0 0;p0 0 0 9;p0 0 0 0;p0 0 0 8;d0 0 9;d0 0 8;d0 0 0;");
        T.due("diedAt(4)", x.diedAt(4), Check.UNKNOWN);
        T.due("diedAt(-1)", x.diedAt(-1), Check.UNKNOWN);
        T.due("diedAt(1), he lives", x.diedAt(1), Check.NOT);
        x.attempt();
        T.due("diedAt(1)", x.diedAt(1), 1);
        T.due("diedAt(0), he lives", x.diedAt(0), Check.NOT);
        x.day(1);
        x.attempt();
        T.due("diedAt(3)", x.diedAt(3), 2);
        x.hire();
        T.due("diedAt(3), one hired", x.diedAt(3), 2);
        x.day(1);
        x.attempt();
        T.due("diedAt(0)", x.diedAt(0), 0);
        T.due("diedAt(1)", x.diedAt(1), 0);
        T.due("diedAt(3)", x.diedAt(3), 1);
    }

    private static void classes() {
        T.promise(18);
        DoubleChain x = new DoubleChain();
        T.due("classes(-1), no court", x.classes(-1), 0);
        T.due("classes(0), no court", x.classes(0), Check.UNKNOWN);
        x = Check.of("k1;p3 0 0 0;p6 7 0 0;p3 7 0 0;p0 7 0 0;p6 7 0 0;p3 7 0 0;");
        T.due("classes(-1)", x.classes(-1), 3);
        T.due("classes(0)", x.classes(0), 1 + 4 + 32);
        T.due("classes(1)", x.classes(1), 2 + 16);
        T.due("classes(3)", x.classes(3), 8);
        T.due("classes(5)", x.classes(5), 1 + 4 + 32);
        T.due("classes(6)", x.classes(6), Check.UNKNOWN);
        T.due("classes(-2)", x.classes(-2), Check.UNKNOWN);
        x.attempt();
        T.due("classes(-1)", x.classes(-1), 3);
        T.due("classes(0): dead", x.classes(0), 0);
        T.due("classes(2)", x.classes(2), 4 + 32);
        x.hire();
        T.due("classes(6)", x.classes(6), 4 + 32 + 64);
        x = Check.of("k1;p3 0 0 0;");
        x.attempt();
        T.due("classes(-1), nobody lives", x.classes(-1), 0);
        T.due("classes(0), nobody lives", x.classes(0), 0);
    }

    private static void tellKing() {
        T.promise(19);
        dueTold("k1;", -1, -1);
        dueTold("k1;p9 0 0 0;", 0, 0);
        dueTold("k1;p9 0 0 0;p9 0 0 0;", -1, -1);
        dueTold("k1;p9 0 0 0;p8 0 0 0;p8 0 0 0;", 1, -1);
        dueTold("k1;p0 0 0 0;p6 0 0 0;p6 0 0 0;", 2, -1);
        dueTold("k1;p0 0 0 0;p5 0 0 0;p6 0 0 0;", 4, 3);
        dueTold("k1;p0 0 0 0;p1 0 0 0;p6 0 0 0;p7 0 0 0;", 3, 3);
        dueTold("k1;p0 0 0 0;p128 0 0 0;p65 0 0 0;", 129, 129);
        dueTold("k1;p3 0 0 0;p131 0 0 0;p128 0 0 0;", 128, 129);
        dueTold("k1;p0 0 0 0;p1 0 0 0;p2 0 0 0;p4 0 0 0;p8 0 0 0;p16 0 0 0;p32 0 0 0;p64 0 0 0;", 127, 127);
        dueTold("k1;p255 0 0 0;p254 0 0 0;p253 0 0 0;p251 0 0 0;p247 0 0 0;p239 0 0 0;p223 0 0 0;p127 0 0 0;", 191, 191);
    }

    private static void tellAll() {
        T.promise(19);
        dueTold("k1;p0 0 0 0;p16 0 0 0;p48 0 0 0;p16 0 0 0;", 16, -1);
        dueTold("k1;p0 0 0 0;p16 0 0 0;p48 0 0 0;p32 0 0 0;", 48, 48);
        dueTold("k1;p7 0 0 0;p112 0 0 0;p48 0 0 0;p32 0 0 0;", 1, 81);
        dueTold("k1;p0 0 0 0;p8 0 0 0;p16 0 0 0;p24 0 0 0;p33 0 0 0;p42 0 0 0;p52 0 0 0;p56 0 0 0;", 25, 56);
        DoubleChain x = Check.of("k1;p1 0 0 0;p3 0 0 0;p5 0 0 0;p4 0 0 0;");
        T.due("tell(false)", x.tell(false), 6);
        T.due("tell(true)", x.tell(true), 7);
        x.attempt();
        T.due("tell(false), the king is dead", x.tell(false), 2);
        T.due("tell(true), the king is dead", x.tell(true), 3);
        x.hire();
        T.due("tell(false), one like the last", x.tell(false), 2);
        T.due("tell(true), one like the last", x.tell(true), -1);
    }

    private static void dueTold(String text, int king, int all) {
        DoubleChain x = Check.of(text);
        T.due("tell(false) of " + text, x.tell(false), king);
        T.due("tell(true) of " + text, x.tell(true), all);
    }

    private static void reign() {
        T.promise(20);
        T.due("reign(), no court", new DoubleChain().reign(), 0);
        T.due("reign(), no day, nobody", Check.of("k1;").reign(), 0);
        T.due("reign(), no day", Check.of("k1;p0 0 0 0;").reign(), 0);
        T.due("reign(), a day, nobody", Check.of("k1;d0 0 0;").reign(), -1);
        T.due("reign(), the king alone", Check.of("k1;p0 0 0 9;p0 0 0 9;d0 0 9;d1 1 1;").reign(), 1);
        DoubleChain x = Check.of("k1;p0 1 0 9;p0 2 0 9;p0 0 0 4;p0 0 0 9;d0 0 4;d0 0 9;d1 0 3;");
        T.due("reign()", x.reign(), 2);
        x.attempt();
        T.due("reign(), the double is dead", x.reign(), 3);
        x.day(1);
        T.due("reign() on another day", x.reign(), 3);
        x.attempt();
        T.due("reign(), the last is dead", x.reign(), -1);
        x.hire();
        T.due("reign(), one is hired", x.reign(), 3);
        x = Check.of("k1;p0 0 0 4;p0 0 0 4;p0 0 0 5;d0 0 4;d0 0 5;d0 0 6;");
        T.due("reign(), a day without anybody", x.reign(), -1);
        x = Check.of("k1;p0 0 0 4;p0 0 0 4;p0 0 0 6;d0 0 4;d0 0 6;d0 0 5;");
        T.due("reign(), three", x.reign(), 3);
    }

    private static void shownAll() {
        T.promise(21);
        T.due("shownAll(), no court", new DoubleChain().shownAll(), Check.NOT);
        T.due("shownAll(), nobody", Check.of("k1;").shownAll(), 0);
        DoubleChain x = Check.of("k1;p0 0 0 0;");
        T.due("shownAll(), the king alone", x.shownAll(), 1);
        x.day(1);
        T.due("shownAll(), he is shown", x.shownAll(), 0);
        x.hire();
        T.due("shownAll(), who is hired never is", x.shownAll(), -1);
        x.attempt();
        T.due("shownAll(), the king is dead", x.shownAll(), 1);
        x = Check.of("k1;p0 1 0 9;p0 2 0 9;d1 0 0;d1 0 0;d1 0 0;d1 0 0;d0 0 0;");
        T.due("shownAll()", x.shownAll(), 5);
        x.day(1);
        T.due("shownAll()", x.shownAll(), 4);
        x.day(4);
        T.due("shownAll()", x.shownAll(), 0);
        x = Check.of("k1;p0 1 0 9;p0 2 0 9;d0 0 0;d1 0 0;d0 0 0;d0 0 0;d0 0 0;");
        x.day(1);
        x.attempt();
        T.due("shownAll(), the king died", x.shownAll(), 0);
        x.undo();
        x.day(1);
        x.attempt();
        T.due("shownAll(), the double died", x.shownAll(), 0);
    }

    private static void apart() {
        T.promise(22);
        T.due("apart(0, 1), no court", new DoubleChain().apart(0, 1), Check.UNKNOWN);
        DoubleChain x = Check.of("k1;p0 0 0 0;p255 0 0 0;p170 0 0 0;p3 0 0 0;");
        T.due("apart(0, 1)", x.apart(0, 1), 8);
        T.due("apart(1, 0)", x.apart(1, 0), 8);
        T.due("apart(2, 1)", x.apart(2, 1), 4);
        T.due("apart(2, 3)", x.apart(2, 3), 4);
        T.due("apart(0, 3)", x.apart(0, 3), 2);
        T.due("apart(2, 2): one twice", x.apart(2, 2), Check.UNKNOWN);
        T.due("apart(0, 4)", x.apart(0, 4), Check.UNKNOWN);
        T.due("apart(4, 0)", x.apart(4, 0), Check.UNKNOWN);
        T.due("apart(-1, 0)", x.apart(-1, 0), Check.UNKNOWN);
        T.due("apart(0, -1)", x.apart(0, -1), Check.UNKNOWN);
        x.attempt();
        T.due("apart(0, 1), one is dead", x.apart(0, 1), 8);
        x.hire();
        T.due("apart(3, 4)", x.apart(3, 4), 0);
    }

    private static void safe() {
        T.promise(23);
        DoubleChain x = new DoubleChain();
        T.due("safe(0, 0), no court", x.safe(0, 0), 1000000000);
        T.due("safe(1, 1), no court", x.safe(1, 1), 990000000);
        x = Check.of(FOUR);
        T.due("safe(0, 100)", x.safe(0, 100), 1000000000);
        T.due("safe(1, 0)", x.safe(1, 0), 980000000);
        T.due("safe(3, 0)", x.safe(3, 0), 884352000);
        T.due("safe(1, 97)", x.safe(1, 97), 10000000);
        T.due("safe(1, 98)", x.safe(1, 98), 0);
        T.due("safe(1, 99)", x.safe(1, 99), 0);
        T.due("safe(60, 100)", x.safe(60, 100), 0);
        T.due("safe(2, 99)", x.safe(2, 99), 0);
        T.due("safe(10, 5)", x.safe(10, 5), 355099397);
        int[][] outside = {{-1, 0}, {61, 0}, {0, -1}, {0, 101}};
        for (int[] o : outside) {
            T.due("safe(" + o[0] + ", " + o[1] + ")", x.safe(o[0], o[1]), Check.OUTSIDE);
        }
        x.day(3);
        T.due("safe(2, 0), the days come round", x.safe(2, 0), 891800000);
        x = Check.of("k1;");
        // 0.97 to the 5th and 6th, cut after each day.
        T.due("safe(5, 3)", x.safe(5, 3), 858734025);
        T.due("safe(6, 3)", x.safe(6, 3), 832972004);
        T.due("safe(60, 0)", x.safe(60, 0), 1000000000);
        T.due("safe(60, 50)", x.safe(60, 50), 0);
        T.due("safe(9, 90)", x.safe(9, 90), 1);
        T.due("safe(10, 90)", x.safe(10, 90), 0);
    }

    private static void nothingChanges() {
        T.promise(13);
        DoubleChain x = Check.of(FOUR);
        x.day(5);
        x.attempt();
        x.seed(9);
        int[] want = new int[12];
        for (int what = 0; what < 12; what++) {
            want[what] = x.told(what);
        }
        x.would(0, 0, 0);
        x.firstNobody(9);
        x.send(3, 1);
        x.byMarks(1, 2);
        x.diedAt(0);
        x.classes(-1);
        x.tell(true);
        x.reign();
        x.shownAll();
        x.apart(0, 1);
        x.safe(9, 9);
        x.fits();
        x.lookOn();
        x.judge();
        for (int what = 0; what < 12; what++) {
            T.due("told(" + what + ") behind what was tried", x.told(what), want[what]);
        }
        T.due("seed(9) behind what was tried", x.seed(9), 9);
    }
}
