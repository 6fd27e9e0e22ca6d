/** The edges that section 2 and promises 8 to 12 name, sentence by sentence: the last that is allowed, the first that is not. */
public final class ChainEdgeTest {
    private static final Check T = new Check();

    public static void main(String[] args) {
        allLiveAtFirst();
        seenIsTheFirst();
        payIsHalved();
        daysComeRound();
        noDayIsTold();
        shown();
        spentIsAtMost();
        spentPassesItsBound();
        copies();
        copiesInTheMorning();
        copiesAlone();
        daysAtOnce();
        daysAbove9000();
        attempts();
        hiredBehindTheLast();
        hiredStaysInNever();
        hiredAtMost();
        hireRefused();
        driftsAtOnce();
        driftsAbove9000();
        drawnBelowDanger();
        attemptAheadOfTheDay();
        undoneAtMost();
        undoneWithoutEffect();
        undoneInSectionTwo();
        notUndone();
        T.end();
    }

    // ---- the chain

    /** "the row of PERSONS that live (all, by number, at first)". */
    private static void allLiveAtFirst() {
        T.promise(6);
        for (int many = 1; many <= 8; many++) {
            DoubleChain x = Check.of("k5;" + Check.people(many, "1 0 0 9"));
            for (int p = 0; p < many; p++) {
                T.due("person(" + p + ", 4) of " + many, x.person(p, 4), p);
            }
            T.due("told(5) of " + many, x.told(5), (1 << many) - 1);
        }
    }

    /** "SEEN is the first of THE CHAIN who GOES OUT; NONE." */
    private static void seenIsTheFirst() {
        T.promise(5);
        for (int first = 0; first <= 8; first++) {
            DoubleChain x = Check.of("k5;" + Check.people(first, "0 1 0 9") + Check.people(8 - first, "0 0 0 9"));
            T.due("told(7), " + first + " stay in", x.told(7), first < 8 ? first : -1);
        }
        for (int danger = 0; danger <= 9; danger++) {
            DoubleChain x = Check.of("k5;p0 0 0 0;p0 0 0 4;p0 0 0 8;d0 0 " + danger + ";");
            T.due("told(7) by danger " + danger, x.told(7), danger == 0 ? 0 : danger <= 4 ? 1 : danger <= 8 ? 2 : -1);
        }
    }

    /** "PAY of the i-th of THE CHAIN (from 0) is P / 2 to the power i"; "/ cuts towards 0". */
    private static void payIsHalved() {
        T.promise(6);
        for (int pay : new int[] {1, 2, 3, 127, 128, 129, 255, 256, 998, 999}) {
            DoubleChain x = Check.of("k" + pay + ";" + Check.people(8, "0 0 0 9"));
            int sum = 0;
            int power = 1;
            for (int p = 0; p < 8; p++) {
                T.due("person(" + p + ", 5) of " + pay, x.person(p, 5), pay / power);
                sum += pay / power;
                power *= 2;
            }
            T.due("day(1) of " + pay, x.day(1), sum);
        }
    }

    /** "DAYS told come round: number t is the one of t left over by how many". */
    private static void daysComeRound() {
        T.promise(8);
        int[] dangers = {0, 5, 5, 0, 5, 0, 0, 0, 5, 9};
        for (int many = 1; many <= 10; many++) {
            StringBuilder text = new StringBuilder("k5;p0 0 0 4;");
            for (int d = 0; d < many; d++) {
                text.append("d0 0 ").append(dangers[d]).append(';');
            }
            DoubleChain x = Check.of(text.toString());
            for (int t = 0; t <= 2 * many + 1; t++) {
                boolean out = dangers[t % many] <= 4;
                T.due("told(7) on day " + t + " of " + many, x.told(7), out ? 0 : -1);
                T.due("person(0, 6) on day " + t + " of " + many, x.person(0, 6), out ? 1 : 0);
                T.due("told(4)", x.told(4), t);
                x.day(1);
            }
        }
    }

    /** "none told: WEATHER 0, HOUR 0, DANGER 0". */
    private static void noDayIsTold() {
        T.promise(8);
        DoubleChain x = Check.of("k5;p0 1 0 9;p0 0 1 9;p0 6 14 0;");
        for (int t = 0; t < 3; t++) {
            T.due("told(7) on day " + t, x.told(7), 2);
            T.due("person(0, 6) on day " + t, x.person(0, 6), 0);
            T.due("person(1, 6) on day " + t, x.person(1, 6), 0);
            T.due("person(2, 6) on day " + t, x.person(2, 6), 1);
            x.day(1);
        }
        x.seed(0);
        x.attempt();
        T.due("told(7), he died", x.told(7), -1);
        T.due("drift(60): no danger", x.drift(60), 2);
    }

    /** "who is SEEN on it is SHOWN"; nobody is, where nobody is SEEN; a dead one still is. */
    private static void shown() {
        T.promise(8);
        DoubleChain x = Check.of("k5;p0 0 0 3;p0 0 0 5;d0 0 9;d0 0 5;d0 0 3;");
        int[] want = {0, 0, 2, 3, 3};
        for (int t = 0; t < want.length; t++) {
            T.due("told(6) on day " + t, x.told(6), want[t]);
            x.day(1);
        }
        x.attempt();
        T.due("told(6), one died", x.told(6), 3);
        x = Check.of("k5;" + Check.people(7, "0 1 0 9") + "p0 0 0 9;");
        x.day(1);
        T.due("told(6), the eighth", x.told(6), 128);
    }

    /** "SPENT, 999999 at most": 1001 days of 999 are that. */
    private static void spentIsAtMost() {
        T.promise(8);
        DoubleChain x = Check.of("k999;p0 0 0 0;");
        for (int i = 1; i <= 16; i++) {
            T.due("day(60)", x.day(60), i * 60 * 999);
        }
        T.due("day(40), the 1000th", x.day(40), 999000);
        T.due("day(1), the 1001st", x.day(1), 999999);
        T.due("day(1), the 1002nd", x.day(1), 999999);
        T.due("told(8)", x.told(8), 999999);
        T.due("told(4)", x.told(4), 1002);
        x.undo();
        x.undo();
        T.due("told(8), undone", x.told(8), 999000);
    }

    /** One more than 999999 is cut, and what one day alone passes by much. */
    private static void spentPassesItsBound() {
        T.promise(8);
        DoubleChain x = Check.of("k500;p0 0 0 0;");
        for (int i = 0; i < 33; i++) {
            x.day(60);
        }
        T.due("day(19), the 1999th", x.day(19), 999500);
        T.due("day(1), the 2000th", x.day(1), 999999);
        x = Check.of("k999;" + Check.people(8, "0 0 0 0"));
        for (int i = 0; i < 8; i++) {
            x.day(60);
        }
        T.due("day(23), the 503rd", x.day(23), 998958);
        T.due("day(60), the 504th and on", x.day(60), 999999);
        T.due("drift(60)", x.drift(60), 8);
        T.due("told(8)", x.told(8), 999999);
    }

    /** COPIES, of each set ahead and each own one. */
    private static void copies() {
        T.promise(8);
        for (int ahead = 0; ahead <= 255; ahead++) {
            for (int own = 0; own <= 255; own += 7) {
                DoubleChain x = Check.of("k1;p" + ahead + " 0 0 0;p" + own + " 0 0 0;p" + (own ^ 255) + " 0 0 0;");
                x.day(1);
                T.due("person(0, 0), the first of the chain", x.person(0, 0), ahead);
                T.due("person(1, 0) of " + own + " behind " + ahead, x.person(1, 0), copied(own, ahead));
                T.due("person(2, 0), 255 less " + own, x.person(2, 0), copied(own ^ 255, own));
            }
        }
    }

    private static int copied(int own, int ahead) {
        for (int mark = 1; mark <= 128; mark *= 2) {
            if ((ahead & mark) != 0 && (own & mark) == 0) {
                return own + mark;
            }
        }
        for (int mark = 1; mark <= 128; mark *= 2) {
            if ((own & mark) != 0 && (ahead & mark) == 0) {
                return own - mark;
            }
        }
        return own;
    }

    /** "(as it was in the morning)": what the one ahead takes up today is not copied today. */
    private static void copiesInTheMorning() {
        T.promise(8);
        DoubleChain x = Check.of("k1;p128 0 0 0;" + Check.people(7, "0 0 0 0"));
        for (int day = 1; day <= 8; day++) {
            x.day(1);
            for (int p = 1; p < 8; p++) {
                T.due("person(" + p + ", 0) on day " + day, x.person(p, 0), p <= day ? 128 : 0);
            }
        }
        x = Check.of("k1;p0 0 0 0;" + Check.people(7, "1 0 0 0"));
        for (int day = 1; day <= 8; day++) {
            x.day(1);
            for (int p = 1; p < 8; p++) {
                T.due("person(" + p + ", 0) on day " + day, x.person(p, 0), p <= day ? 0 : 1);
            }
        }
    }

    /** "each of THE CHAIN but its first": one alone, the dead, and who became the first copy nothing. */
    private static void copiesAlone() {
        T.promise(8);
        DoubleChain x = Check.of("k1;p170 0 0 9;");
        x.day(60);
        T.due("person(0, 0), alone", x.person(0, 0), 170);
        x = Check.of("k1;p255 0 0 9;p7 0 0 9;p7 0 0 9;");
        x.attempt();
        x.day(60);
        T.due("person(0, 0), dead", x.person(0, 0), 255);
        T.due("person(1, 0), the first now", x.person(1, 0), 7);
        T.due("person(2, 0), like the one ahead", x.person(2, 0), 7);
    }

    // ---- what is done

    /** "n DAYS (1 .. 60) go by: SPENT. OUTSIDE". */
    private static void daysAtOnce() {
        T.promise(8);
        DoubleChain x = Check.of("k5;p0 0 0 9;");
        T.due("day(1)", x.day(1), 5);
        T.due("day(60)", x.day(60), 305);
        T.due("day(0)", x.day(0), Check.OUTSIDE);
        T.due("day(61)", x.day(61), Check.OUTSIDE);
        T.due("day(-1)", x.day(-1), Check.OUTSIDE);
        T.due("told(4)", x.told(4), 61);
        T.due("told(11)", x.told(11), 2);
        T.due("day(1), no court", new DoubleChain().day(1), Check.NOT);
        T.due("day(0), no court", new DoubleChain().day(0), Check.OUTSIDE);
        T.due("day(61), no court", new DoubleChain().day(61), Check.OUTSIDE);
    }

    private static DoubleChain after(int sixties) {
        DoubleChain x = Check.of("k1;p0 0 0 9;d0 0 9;");
        for (int i = 0; i < sixties; i++) {
            x.day(60);
        }
        return x;
    }

    /** "FULL: DAYS are above 9000 as it is called (n may pass that)". */
    private static void daysAbove9000() {
        T.promise(8);
        DoubleChain x = after(149);
        T.due("day(59) at 8940", x.day(59), 8999);
        T.due("day(60) at 8999", x.day(60), 9059);
        T.due("day(1) at 9059", x.day(1), Check.FULL);
        x = after(150);
        T.due("told(4)", x.told(4), 9000);
        T.due("day(60) at 9000", x.day(60), 9060);
        T.due("day(1) at 9060", x.day(1), Check.FULL);
        T.due("day(0) at 9060", x.day(0), Check.OUTSIDE);
        x.undo();
        T.due("day(1) at 9000", x.day(1), 9001);
        T.due("day(1) at 9001", x.day(1), Check.FULL);
        T.due("day(60) at 9001", x.day(60), Check.FULL);
        T.due("day(61) at 9001", x.day(61), Check.OUTSIDE);
        T.due("told(4)", x.told(4), 9001);
        T.due("attempt() at 9001 is none of that", x.attempt(), 0);
        T.due("court() of nothing", x.court(), 0);
        T.due("day(1) behind it", x.day(1), Check.NOT);
    }

    /** "who is SEEN this DAY dies (all behind him move up one); nobody SEEN: nobody". */
    private static void attempts() {
        T.promise(9);
        DoubleChain x = Check.of("k128;" + Check.people(8, "0 0 0 9"));
        for (int p = 0; p < 8; p++) {
            T.due("attempt()", x.attempt(), p);
            T.due("told(5)", x.told(5), 256 - (2 << p));
            T.due("person(" + p + ", 4)", x.person(p, 4), -1);
            for (int q = p + 1; q < 8; q++) {
                T.due("person(" + q + ", 4)", x.person(q, 4), q - p - 1);
                T.due("person(" + q + ", 5)", x.person(q, 5), 128 >> (q - p - 1));
            }
        }
        T.due("attempt(), nobody lives", x.attempt(), -1);
        T.due("told(11)", x.told(11), 9);
        T.due("told(1)", x.told(1), 8);
        T.due("told(4)", x.told(4), 0);
        T.due("attempt(), nobody is seen", Check.of("k1;p0 0 0 8;d0 0 9;").attempt(), -1);
        T.due("attempt(), he is seen", Check.of("k1;p0 0 0 9;d0 0 9;").attempt(), 0);
        T.due("attempt(), nobody at all", Check.of("k1;").attempt(), -1);
        T.due("attempt(), no court", new DoubleChain().attempt(), Check.NOT);
    }

    /** "a PERSON more, the last of THE CHAIN .. MARKS of the last one". */
    private static void hiredBehindTheLast() {
        T.promise(10);
        DoubleChain x = Check.of("k64;p1 0 0 9;p2 0 0 9;p4 0 0 9;p8 0 0 9;d0 0 9;");
        T.due("hire()", x.hire(), 4);
        T.due("person(4, 0)", x.person(4, 0), 8);
        T.due("person(4, 4)", x.person(4, 4), 4);
        T.due("person(4, 5)", x.person(4, 5), 4);
        x = Check.of("k64;p1 0 0 0;p2 0 0 0;p4 0 0 9;p8 0 0 9;d0 0 9;");
        x.attempt();
        x.attempt();
        T.due("hire(), the last two are dead", x.hire(), 4);
        T.due("person(4, 0)", x.person(4, 0), 2);
        T.due("person(4, 4)", x.person(4, 4), 2);
        x.day(1);
        T.due("person(4, 0), he takes nothing up: it is as in the morning", x.person(4, 0), 2);
        T.due("person(1, 0)", x.person(1, 0), 3);
        x.day(1);
        T.due("person(4, 0), he copies as the others do", x.person(4, 0), 3);
    }

    /** "stays in never, FEAR 9". */
    private static void hiredStaysInNever() {
        T.promise(10);
        DoubleChain x = Check.of("k64;p1 7 15 0;");
        x.hire();
        T.due("person(1, 1)", x.person(1, 1), 0);
        T.due("person(1, 2)", x.person(1, 2), 0);
        T.due("person(1, 3)", x.person(1, 3), 9);
        for (int weather = 0; weather <= 2; weather++) {
            for (int hour = 0; hour <= 3; hour++) {
                T.due("would(" + weather + ", " + hour + ", 9)", x.would(weather, hour, 9), 1);
                T.due("would(" + weather + ", " + hour + ", 0)", x.would(weather, hour, 0), 1);
            }
        }
    }

    /** "8 at most that ever were"; "FULL: there were 8". */
    private static void hiredAtMost() {
        T.promise(10);
        for (int told = 1; told <= 8; told++) {
            DoubleChain x = Check.of("k64;" + Check.people(told, "3 0 0 9"));
            for (int p = told; p < 8; p++) {
                T.due("hire() behind " + told, x.hire(), p);
            }
            T.due("hire(), the ninth", x.hire(), Check.FULL);
            x.attempt();
            T.due("hire(), the ninth, and one died", x.hire(), Check.FULL);
            T.due("told(1)", x.told(1), 8);
            T.due("told(11)", x.told(11), 9 - told);
        }
        DoubleChain x = Check.of("k64;" + Check.people(7, "3 0 0 9"));
        T.due("hire(), the eighth", x.hire(), 7);
        x.undo();
        T.due("hire(), the eighth again", x.hire(), 7);
        T.due("hire(), the ninth", x.hire(), Check.FULL);
    }

    /** "NOT: nobody lives", ahead of FULL. */
    private static void hireRefused() {
        T.promise(10);
        T.due("hire(), no court", new DoubleChain().hire(), Check.NOT);
        T.due("hire(), nobody at all", Check.of("k64;").hire(), Check.NOT);
        for (int told = 1; told <= 8; told++) {
            DoubleChain x = Check.of("k64;" + Check.people(told, "3 0 0 9"));
            for (int p = 0; p < told; p++) {
                x.attempt();
            }
            T.due("hire(), all " + told + " are dead", x.hire(), Check.NOT);
            x.undo();
            T.due("hire(), one of " + told + " lives", x.hire(), told < 8 ? told : Check.FULL);
        }
    }

    /** "n DAYS (1 .. 60) BY DRAWS: how many live. OUTSIDE, NOT". */
    private static void driftsAtOnce() {
        T.promise(11);
        for (int n : new int[] {1, 60}) {
            DoubleChain x = Check.of("k5;p0 0 0 9;p0 0 0 9;");
            x.seed(7);
            T.due("drift(" + n + ")", x.drift(n), 2);
            T.due("told(4)", x.told(4), n);
            T.due("told(8)", x.told(8), 7 * n);
            T.due("told(11)", x.told(11), 1);
            T.due("seed(0): a draw for each day", x.seed(0), drawn(7, n));
            for (int refused : new int[] {0, 61, -1}) {
                T.due("drift(" + refused + ")", x.drift(refused), Check.OUTSIDE);
            }
            T.due("told(4)", x.told(4), n);
            T.due("seed(0): none is drawn", x.seed(0), 0);
        }
        T.due("drift(1), no court", new DoubleChain().drift(1), Check.NOT);
        T.due("drift(0), no court", new DoubleChain().drift(0), Check.OUTSIDE);
        T.due("drift(61), no court", new DoubleChain().drift(61), Check.OUTSIDE);
        DoubleChain x = Check.of("k5;" + Check.people(8, "0 0 0 9") + "d0 0 9;");
        for (int i = 0; i < 60 && x.told(5) != 0; i++) {
            x.drift(60);
        }
        T.due("drift(60), nobody lives", x.drift(60), 0);
    }

    private static int drawn(long seed, int times) {
        for (int i = 0; i < times; i++) {
            seed = Check.next(seed);
        }
        return (int) seed;
    }

    /** "FULL: DAYS are above 9000 as it is called (n may pass that)". */
    private static void driftsAbove9000() {
        T.promise(11);
        DoubleChain x = after(149);
        x.day(59);
        T.due("drift(60) at 8999", x.drift(60) >= 0 ? 1 : 0, 1);
        T.due("told(4)", x.told(4), 9059);
        x = after(150);
        x.seed(1);
        x.drift(60);
        T.due("told(4)", x.told(4), 9060);
        T.due("drift(1) at 9060", x.drift(1), Check.FULL);
        x.undo();
        x.drift(1);
        T.due("told(4)", x.told(4), 9001);
        int seed = x.seed(0);
        x.seed(seed);
        T.due("drift(1) at 9001", x.drift(1), Check.FULL);
        T.due("drift(60) at 9001", x.drift(60), Check.FULL);
        T.due("drift(61) at 9001", x.drift(61), Check.OUTSIDE);
        T.due("drift(0) at 9001", x.drift(0), Check.OUTSIDE);
        T.due("seed(0): none is drawn", x.seed(0), seed);
        T.due("told(4)", x.told(4), 9001);
    }

    /** "ahead of each a DRAW of 100: below DANGER of that DAY an ATTEMPT". */
    private static void drawnBelowDanger() {
        T.promise(11);
        for (int danger = 0; danger <= 9; danger++) {
            for (int draw : new int[] {0, danger - 1, danger, danger + 1, 99}) {
                if (draw >= 0) {
                    DoubleChain x = Check.of("k8;p0 0 0 9;p0 0 0 9;d0 0 " + danger + ";");
                    x.seed(Check.seedThatDraws(draw));
                    T.due("drift(1), danger " + danger + ", " + draw + " drawn", x.drift(1), draw < danger ? 1 : 2);
                }
            }
        }
        // The second day's draw is of the second day's danger.
        int seed = 0;
        while (Check.next(seed) / 65536 % 100 >= 9 || Check.next(Check.next(seed)) / 65536 % 100 >= 9) {
            seed++;
        }
        String[] days = {"d0 0 9;d0 0 0;", "d0 0 0;d0 0 9;", "d0 0 9;d0 0 9;", "d0 0 0;d0 0 0;"};
        int[] lost = {1, 1, 2, 0};
        for (int i = 0; i < days.length; i++) {
            DoubleChain x = Check.of("k8;" + Check.people(3, "0 0 0 9") + days[i]);
            x.seed(seed);
            T.due("drift(2) by " + days[i], x.drift(2), 3 - lost[i]);
        }
    }

    /** "then the DAY": who died on it is neither paid nor shown, nor copied. */
    private static void attemptAheadOfTheDay() {
        T.promise(11);
        DoubleChain x = Check.of("k8;p1 0 0 9;p2 0 0 9;p4 0 0 9;d0 0 9;");
        x.seed(Check.seedThatDraws(8));
        T.due("drift(1)", x.drift(1), 2);
        T.due("told(5)", x.told(5), 6);
        T.due("told(6)", x.told(6), 2);
        T.due("told(8)", x.told(8), 12);
        T.due("person(1, 0)", x.person(1, 0), 2);
        T.due("person(2, 0)", x.person(2, 0), 6);
        T.due("told(11): as one", x.told(11), 1);
    }

    /** "(20 at most are kept, the oldest are lost)"; "how many more can be. NOT: none." */
    private static void undoneAtMost() {
        T.promise(12);
        for (int done : new int[] {1, 19, 20, 21, 22, 40, 41, 60}) {
            DoubleChain x = Check.of("k1;p0 0 0 9;");
            for (int i = 1; i <= done; i++) {
                x.day(1);
            }
            int kept = Math.min(done, 20);
            T.due("told(11) behind " + done, x.told(11), kept);
            for (int i = 1; i <= kept; i++) {
                T.due("undo() behind " + done, x.undo(), kept - i);
                T.due("told(4)", x.told(4), done - i);
                T.due("told(11)", x.told(11), kept - i);
            }
            T.due("undo(), no more, behind " + done, x.undo(), Check.NOT);
            T.due("told(4)", x.told(4), done - kept);
            x.day(1);
            T.due("undo(), one more", x.undo(), 0);
            T.due("undo(), no more", x.undo(), Check.NOT);
        }
    }

    /** "nobody SEEN: nobody (it can be undone all the same)". */
    private static void undoneWithoutEffect() {
        T.promise(12);
        DoubleChain x = Check.of("k1;p0 1 0 9;");
        x.day(1);
        T.due("attempt()", x.attempt(), -1);
        T.due("told(11)", x.told(11), 2);
        T.due("undo()", x.undo(), 1);
        T.due("told(4)", x.told(4), 1);
        T.due("undo()", x.undo(), 0);
        T.due("told(4)", x.told(4), 0);
    }

    /** "all of section 2 is as ahead of it; THE SEED stays"; what is of section 3 stays, too. */
    private static void undoneInSectionTwo() {
        T.promise(12);
        DoubleChain x = Check.of("k9;p1 0 0 9;p2 0 0 9;d0 0 9;");
        x.day(1);
        x.seed(Check.seedThatDraws(0));
        T.due("drift(1)", x.drift(1), 1);
        int seed = drawn(Check.seedThatDraws(0), 1);
        x.hire();
        x.watch(0, true);
        x.write(1, 3);
        x.feed('x');
        T.due("undo() of hire()", x.undo(), 2);
        T.due("told(1)", x.told(1), 2);
        T.due("person(2, 0)", x.person(2, 0), Check.UNKNOWN);
        T.due("undo() of drift()", x.undo(), 1);
        int[] want = {9, 2, 1, 1, 1, 3, 1, 0, 13, 1, 1, 1};
        for (int what = 0; what < want.length; what++) {
            T.due("told(" + what + ")", x.told(what), want[what]);
        }
        T.due("person(1, 0)", x.person(1, 0), 3);
        T.due("seed(0)", x.seed(0), seed);
        T.due("undo() of day()", x.undo(), 0);
        T.due("person(1, 0)", x.person(1, 0), 2);
        T.due("told(6)", x.told(6), 0);
        T.due("told(8)", x.told(8), 0);
    }

    /** "the latest of day(), attempt(), hire(), drift() that was not refused": nothing else is undone. */
    private static void notUndone() {
        T.promise(12);
        DoubleChain x = Check.of("k9;" + Check.people(8, "1 0 0 9") + "d0 0 9;");
        T.due("undo(), nothing done", x.undo(), Check.NOT);
        x.day(0);
        x.drift(61);
        x.hire();
        x.seed(5);
        x.feed('x');
        x.watch(0, true);
        x.write(0, 1);
        x.tear();
        x.would(0, 0, 0);
        x.court();
        T.due("told(11)", x.told(11), 0);
        T.due("undo(), nothing that can be", x.undo(), Check.NOT);
        x.day(1);
        x.day(61);
        x.hire();
        x.drift(0);
        T.due("told(11)", x.told(11), 1);
        T.due("undo(), the day", x.undo(), 0);
        T.due("told(4)", x.told(4), 0);
    }
}
