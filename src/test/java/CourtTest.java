/** Promises 1 to 7: the court. */
public final class CourtTest {
    private static final Check T = new Check();

    public static void main(String[] args) {
        newObject();
        feed();
        courts();
        faults();
        faultStays();
        courtResets();
        courtForgets();
        told();
        person();
        dayTold();
        T.end();
    }

    private static void newObject() {
        T.promise(1);
        DoubleChain x = new DoubleChain();
        int[] want = {0, 0, 0, 0, 0, 0, 0, -1, 0, 0, 0, 0};
        for (int what = 0; what < want.length; what++) {
            T.due("told(" + what + ")", x.told(what), want[what]);
        }
        T.due("fault()", x.fault(), -1);
        T.due("day(1)", x.day(1), Check.NOT);
        T.due("person(0, 0)", x.person(0, 0), Check.UNKNOWN);
        T.due("dayTold(0, 0)", x.dayTold(0, 0), Check.UNKNOWN);
        T.due("seed(5)", x.seed(5), 0);
        T.due("seed(0)", x.seed(0), 5);
    }

    private static void feed() {
        T.promise(2);
        DoubleChain x = new DoubleChain();
        T.due("feed(-1)", x.feed(-1), Check.OUTSIDE);
        T.due("feed(256)", x.feed(256), Check.OUTSIDE);
        T.due("feed(0)", x.feed(0), 1);
        T.due("feed(255)", x.feed(255), 2);
        x.court();
        for (int i = 1; i <= 240; i++) {
            T.due("feed " + i, x.feed(i), i);
        }
        T.due("feed(32), the 241st", x.feed(32), Check.FULL);
        T.due("feed(256), the 241st", x.feed(256), Check.OUTSIDE);
        T.due("told(3)", x.told(3), 240);
        Check.feed(x, "k");
        T.due("court()", x.court(), -11);
        T.due("fault()", x.fault(), 0);
        T.due("feed(32)", x.feed(32), 1);
    }

    private static void courts() {
        T.promise(3);
        dueCourt("", 0, -1);
        dueCourt("    ", 0, -1);
        dueCourt("k1;", 0, -1);
        dueCourt("k999;", 0, -1);
        dueCourt("k007;", 0, -1);
        dueCourt("  k  5  ;  ", 0, -1);
        dueCourt("k5;p0 0 0 0;", 1, -1);
        dueCourt("k5;p255 7 15 9;d2 3 9;d 0 0 0 ;", 1, -1);
        dueCourt("k5; p 255 7 15 9 ; d2 3 9;p000 001 2 3;", 2, -1);
        dueCourt("k5;" + "p0 0 0 0;".repeat(8) + "d0 0 0;".repeat(10), 8, -1);
        dueCourt("k5;" + "d0 0 0;".repeat(10) + "p0 0 0 0;".repeat(8), 8, -1);
        dueCourt("k5;" + " ".repeat(229) + "p0 0 0 0", -11, 240);
        dueCourt("k5;" + " ".repeat(228) + "p0 0 0 0;", 1, -1);
    }

    private static void dueCourt(String text, int answer, int place) {
        DoubleChain x = new DoubleChain();
        Check.feed(x, text);
        T.due("court() of \"" + text + "\"", x.court(), answer);
        T.due("fault() of \"" + text + "\"", x.fault(), place);
        T.due("told(3) of \"" + text + "\"", x.told(3), 0);
    }

    private static void faults() {
        T.promise(4);
        cannotStand();
        cannotStandBehindLonger();
        wrongNumbers();
        tooMany();
    }

    private static void cannotStand() {
        dueCourt("x", -11, 0);
        dueCourt("p0 0 0 0;", -11, 0);
        dueCourt("d0 0 0;", -11, 0);
        dueCourt(" ;", -11, 1);
        dueCourt("5", -11, 0);
        dueCourt("K5;", -11, 0);
        dueCourt("k", -11, 1);
        dueCourt("k  ", -11, 3);
        dueCourt("k;", -11, 1);
        dueCourt("k5", -11, 2);
        dueCourt("k5 5;", -11, 3);
        dueCourt("k5k;", -11, 2);
        dueCourt("k-5;", -11, 1);
        dueCourt("k5;;", -11, 3);
        dueCourt("k5;x", -11, 3);
        dueCourt("k5;7", -11, 3);
        dueCourt("k5;p0 0 0;", -11, 9);
        dueCourt("k5;p0 0 0 0 0;", -11, 12);
        dueCourt("k5;p0 0 0 0 1000;", -11, 12);
        dueCourt("k5;p0,0 0 0;", -11, 5);
        dueCourt("k5;p1p", -11, 5);
        dueCourt("k5;d0 0;", -11, 7);
        dueCourt("k5;d0 0 0 0;", -11, 10);
        dueCourt("k5;d0 0 0", -11, 9);
        dueCourt("k5\t;", -11, 2);
        dueCourt("k:;", -11, 1);
        dueCourt("k/;", -11, 1);
    }

    /** Letters of an earlier, longer text stand behind none. */
    private static void cannotStandBehindLonger() {
        DoubleChain x = new DoubleChain();
        dueNext(x, "k555;p0 0 0 0;       ;", -11, 21);
        dueNext(x, "k55", -11, 3);
        dueNext(x, "k555;x", -11, 5);
        dueNext(x, "k555", -11, 4);
        dueNext(x, "k5; ", 0, -1);
        dueNext(x, "k5", -11, 2);
        dueNext(x, "k    ;", -11, 5);
        dueNext(x, "k", -11, 1);
        dueNext(x, "", 0, -1);
    }

    private static void dueNext(DoubleChain x, String text, int answer, int place) {
        Check.feed(x, text);
        T.due("court() of \"" + text + "\" next", x.court(), answer);
        T.due("fault() of \"" + text + "\" next", x.fault(), place);
    }

    private static void wrongNumbers() {
        dueCourt("k0;", -12, 1);
        dueCourt("k 0", -12, 2);
        dueCourt("k0001;", -12, 1);
        dueCourt("k1000;", -12, 1);
        dueCourt("k99999999999999999999;", -12, 1);
        dueCourt("k4294967297", -12, 1);
        dueCourt("k1000x", -12, 1);
        dueCourt("k5;p256 0 0 0;", -12, 4);
        dueCourt("k5;p0000 0 0 0;", -12, 4);
        dueCourt("k5;p0 8 0 0;", -12, 6);
        dueCourt("k5;p0 0 16 0;", -12, 8);
        dueCourt("k5;p0 0 0 10;", -12, 10);
        dueCourt("k5;p0 0 0 9999", -12, 10);
        dueCourt("k5;d3 0 0;", -12, 4);
        dueCourt("k5;d0 4 0;", -12, 6);
        dueCourt("k5;d0 0 10;", -12, 8);
        dueCourt("k5;p00 00 00;", -11, 12);
        dueCourt("k5;p0808 0 0 0;", -12, 4);
        dueCourt("k5;p256 8;", -12, 4);
    }

    private static void tooMany() {
        String eight = "k5;" + "p0 0 0 0;".repeat(8);
        String ten = "k5;" + "d0 0 0;".repeat(10);
        dueCourt("k5;k", -13, 3);
        dueCourt("k5; k6;", -13, 4);
        dueCourt("k5;p0 0 0 0;k6;", -13, 12);
        dueCourt(eight + "p", -13, 75);
        dueCourt(eight + "p0 0 0 0;", -13, 75);
        dueCourt(eight + "k", -13, 75);
        dueCourt(eight + "x", -11, 75);
        dueCourt(ten + "d", -13, 73);
        dueCourt(ten + "d0 0 0;", -13, 73);
        dueCourt(ten + "p0 0 0 0;", 1, -1);
        dueCourt(eight + "d0 0 0;", 8, -1);
    }

    private static void faultStays() {
        T.promise(4);
        DoubleChain x = Check.of("k5;p1 0 0 9;d1 2 3;");
        x.day(1);
        x.watch(0, true);
        x.write(0, 9);
        x.keep(0);
        x.day(2);
        Check.feed(x, "k6;p2 0 0 0;q");
        T.due("told(3)", x.told(3), 13);
        T.due("court()", x.court(), -11);
        T.due("fault()", x.fault(), 12);
        T.promise(3);
        int[] want = {5, 1, 1, 0, 3, 1, 1, 0, 15, 1, 1, 1};
        for (int what = 0; what < want.length; what++) {
            T.due("told(" + what + ") behind a fault", x.told(what), want[what]);
        }
        T.due("person(0, 0) behind a fault", x.person(0, 0), 1);
        T.due("dayTold(0, 2) behind a fault", x.dayTold(0, 2), 3);
        T.due("undo() behind a fault", x.undo(), 0);
        T.due("goBack(0) behind a fault", x.goBack(0), 1);
        T.promise(4);
        T.due("fault() behind goBack", x.fault(), 12);
        x.feed('k');
        T.due("fault() behind feed", x.fault(), 12);
        Check.feed(x, "3;");
        T.due("court()", x.court(), 0);
        T.due("fault() behind a good one", x.fault(), -1);
    }

    private static void courtResets() {
        T.promise(3);
        DoubleChain x = Check.of("k5;p1 0 0 9;p1 0 0 9;d1 2 3;");
        spoil(x);
        Check.feed(x, "k6;p2 0 0 0;p3 1 1 1;p4 2 2 2;");
        T.due("court()", x.court(), 3);
        int[] want = {6, 3, 0, 0, 0, 7, 0, 0, 0, 0, 0, 0};
        dueAll(x, want);
        T.due("person(0, 0)", x.person(0, 0), 2);
        T.due("person(2, 2)", x.person(2, 2), 2);
        spoil(x);
        T.due("court() of nothing", x.court(), 0);
        dueAll(x, new int[] {0, 0, 0, 0, 0, 0, 0, -1, 0, 0, 0, 0});
        T.due("attempt() behind it", x.attempt(), Check.NOT);
    }

    /** Nothing of an earlier text, or of one with a fault, is left for those who are hired. */
    private static void courtForgets() {
        T.promise(3);
        DoubleChain x = Check.of("k5;p1 7 15 0;p1 7 15 0;p1 7 15 0;d2 3 9;");
        Check.feed(x, "k5;p1 7 15 0;p1 7 15 0;p1 7 15 0;d2 3 9;x");
        x.court();
        for (int i = 0; i < 2; i++) {
            Check.feed(x, "k5;p4 7 15 0;");
            T.due("court()", x.court(), 1);
            T.due("hire()", x.hire(), 1);
            duePerson(x, 1, new int[] {4, 0, 0, 9, 1, 2, 1});
            T.due("dayTold(0, 0)", x.dayTold(0, 0), Check.UNKNOWN);
            T.due("safe(1, 0)", x.safe(1, 0), 1000000000);
        }
    }

    private static void spoil(DoubleChain x) {
        x.seed(77);
        x.keep(0);
        x.keep(1);
        x.day(3);
        x.attempt();
        x.watch(0, true);
        x.write(0, 9);
    }

    private static void dueAll(DoubleChain x, int[] want) {
        for (int what = 0; what < want.length; what++) {
            T.due("told(" + what + ") of the new court", x.told(what), want[what]);
        }
        T.due("goBack(0) of the new court", x.goBack(0), Check.NOT);
        T.due("goBack(1) of the new court", x.goBack(1), Check.NOT);
        T.due("undo() of the new court", x.undo(), Check.NOT);
        T.due("seed(77): it stayed", x.seed(77), 77);
    }

    private static void told() {
        T.promise(5);
        DoubleChain x = Check.of("k100;p1 2 0 9;p3 0 1 9;p4 0 0 0;d0 0 0;d1 0 5;");
        T.due("told(-1)", x.told(-1), Check.OUTSIDE);
        T.due("told(12)", x.told(12), Check.OUTSIDE);
        T.due("told(7)", x.told(7), 0);
        x.day(1);
        T.due("told(7) on a day of rain", x.told(7), Check.NONE);
        T.due("told(6)", x.told(6), 1);
        x.hire();
        T.due("told(7) with one hired", x.told(7), 3);
        x.day(1);
        T.due("told(6) of two", x.told(6), 9);
        x.attempt();
        x.watch(1, true);
        x.write(0, 1);
        x.write(0, 1);
        x.feed('k');
        int[] want = {100, 4, 2, 1, 2, 14, 9, 2, 362, 1, 2, 4};
        for (int what = 0; what < want.length; what++) {
            T.due("told(" + what + ")", x.told(what), want[what]);
        }
    }

    private static void person() {
        T.promise(6);
        DoubleChain x = Check.of("k101;p200 1 0 9;p3 5 8 4;p4 0 0 0;p7 2 1 3;d0 3 4;d2 0 4;d1 1 3;d0 1 4;d0 0 5;");
        duePerson(x, 0, new int[] {200, 1, 0, 9, 0, 101, 0});
        duePerson(x, 1, new int[] {3, 5, 8, 4, 1, 50, 0});
        duePerson(x, 2, new int[] {4, 0, 0, 0, 2, 25, 0});
        duePerson(x, 3, new int[] {7, 2, 1, 3, 3, 12, 0});
        T.due("person(4, 0)", x.person(4, 0), Check.UNKNOWN);
        T.due("person(-1, 0)", x.person(-1, 0), Check.UNKNOWN);
        T.due("person(4, 7)", x.person(4, 7), Check.UNKNOWN);
        T.due("person(3, 7)", x.person(3, 7), Check.OUTSIDE);
        T.due("person(3, -1)", x.person(3, -1), Check.OUTSIDE);
        x = Check.of("k101;p0 0 0 9;p0 0 1 3;p0 2 0 9;p9 0 0 0;d0 1 4;d1 1 3;d0 0 0;");
        x.attempt();
        duePerson(x, 0, new int[] {0, 0, 0, 9, -1, 0, 1});
        duePerson(x, 1, new int[] {0, 0, 1, 3, 0, 101, 0});
        duePerson(x, 2, new int[] {0, 2, 0, 9, 1, 50, 1});
        T.due("hire()", x.hire(), 4);
        duePerson(x, 4, new int[] {9, 0, 0, 9, 3, 12, 1});
        x.day(1);
        T.due("person(1, 6) next day", x.person(1, 6), 1);
        T.due("person(2, 6) next day", x.person(2, 6), 0);
        x.day(1);
        T.due("person(1, 6) the third day", x.person(1, 6), 0);
        T.due("person(0, 6) the third day", x.person(0, 6), 1);
        x.day(1);
        T.due("person(1, 6) the first day again", x.person(1, 6), 0);
        x = Check.of("k5;p0 1 0 0;p0 0 1 0;p0 6 14 0;");
        T.due("person(0, 6) no day told: sun", x.person(0, 6), 0);
        T.due("person(1, 6) no day told: hour 0", x.person(1, 6), 0);
        T.due("person(2, 6) no day told: danger 0", x.person(2, 6), 1);
    }

    private static void duePerson(DoubleChain x, int p, int[] want) {
        boolean firstDay = x.told(4) == 0;
        for (int what = 0; what < want.length; what++) {
            if (what != 6 || firstDay) {
                T.due("person(" + p + ", " + what + ")", x.person(p, what), want[what]);
            }
        }
    }

    private static void dayTold() {
        T.promise(7);
        DoubleChain x = Check.of("k5;d0 3 9;d2 1 0;d1 0 7;");
        int[][] want = {{0, 3, 9}, {2, 1, 0}, {1, 0, 7}};
        for (int d = 0; d < 3; d++) {
            for (int what = 0; what < 3; what++) {
                T.due("dayTold(" + d + ", " + what + ")", x.dayTold(d, what), want[d][what]);
            }
        }
        T.due("dayTold(3, 0)", x.dayTold(3, 0), Check.UNKNOWN);
        T.due("dayTold(-1, 0)", x.dayTold(-1, 0), Check.UNKNOWN);
        T.due("dayTold(3, 3)", x.dayTold(3, 3), Check.UNKNOWN);
        T.due("dayTold(2, 3)", x.dayTold(2, 3), Check.OUTSIDE);
        T.due("dayTold(2, -1)", x.dayTold(2, -1), Check.OUTSIDE);
    }
}
