/** The edges that promises 13 to 23 and their sentences of section 3 name: the last that is allowed, the first that is not. */
public final class TriedEdgeTest {
    private static final Check T = new Check();

    public static void main(String[] args) {
        would();
        firstNobodyBounds();
        firstNobodyFinds();
        firstNobodyFromDayZero();
        sendBounds();
        sendNeedsAnother();
        sendWhoeverStandsAhead();
        sendTheLesser();
        byMarksBounds();
        byMarksOfTheChain();
        diedAtBounds();
        diedAtPlaces();
        classesBounds();
        classesCounted();
        tellOfFew();
        tellTheFewest();
        tellTheLeast();
        reign();
        reignOfManyDays();
        shownAll();
        shownAllComesRound();
        apart();
        safeBounds();
        safeAtMostAHundred();
        safeIsCut();
        T.end();
    }

    /** Promise 13: "WOULD; NONE. OUTSIDE." */
    private static void would() {
        T.promise(13);
        DoubleChain[] all = {new DoubleChain(), Check.of("k1;"), Check.of("k1;p0 0 0 9;")};
        for (int i = 0; i < all.length; i++) {
            DoubleChain x = all[i];
            int seen = i == 2 ? 0 : -1;
            T.due("would(0, 0, 0)", x.would(0, 0, 0), seen);
            T.due("would(2, 3, 9)", x.would(2, 3, 9), seen);
            T.due("would(-1, 0, 0)", x.would(-1, 0, 0), Check.OUTSIDE);
            T.due("would(3, 0, 0)", x.would(3, 0, 0), Check.OUTSIDE);
            T.due("would(0, -1, 0)", x.would(0, -1, 0), Check.OUTSIDE);
            T.due("would(0, 4, 0)", x.would(0, 4, 0), Check.OUTSIDE);
            T.due("would(0, 0, -1)", x.would(0, 0, -1), Check.OUTSIDE);
            T.due("would(0, 0, 10)", x.would(0, 0, 10), Check.OUTSIDE);
        }
    }

    /** "the first of the next n DAYS (0 .. 60; this one first)". */
    private static void firstNobodyBounds() {
        T.promise(14);
        DoubleChain[] all = {new DoubleChain(), Check.of("k1;"), Check.of("k1;p0 0 0 9;")};
        for (int i = 0; i < all.length; i++) {
            DoubleChain x = all[i];
            T.due("firstNobody(-1)", x.firstNobody(-1), Check.OUTSIDE);
            T.due("firstNobody(0)", x.firstNobody(0), -1);
            T.due("firstNobody(1)", x.firstNobody(1), i == 2 ? -1 : 0);
            T.due("firstNobody(60)", x.firstNobody(60), i == 2 ? -1 : 0);
            T.due("firstNobody(61)", x.firstNobody(61), Check.OUTSIDE);
        }
    }

    /** The last of the next n, and the one behind it. */
    private static void firstNobodyFinds() {
        T.promise(14);
        for (int d = 0; d < 10; d++) {
            DoubleChain x = Check.of("k1;p0 0 0 8;" + "d0 0 8;".repeat(d) + "d0 0 9;" + "d0 0 8;".repeat(9 - d));
            for (int n = 0; n <= 60; n++) {
                T.due("firstNobody(" + n + "), it is day " + d, x.firstNobody(n), n > d ? d : -1);
            }
        }
    }

    /** "its number (from DAY 0 on)". */
    private static void firstNobodyFromDayZero() {
        T.promise(14);
        DoubleChain x = Check.of("k1;p0 0 0 8;d0 0 9;" + "d0 0 8;".repeat(9));
        for (int t = 0; t <= 21; t++) {
            int first = (t + 9) / 10 * 10;
            T.due("firstNobody(10) on day " + t, x.firstNobody(10), first);
            T.due("firstNobody(9) on day " + t, x.firstNobody(9), first < t + 9 ? first : -1);
            x.day(1);
        }
        x = Check.of("k1;p0 0 0 8;d0 0 9;" + "d0 0 8;".repeat(6));
        for (int i = 0; i < 151; i++) {
            x.day(60);
        }
        T.due("told(4)", x.told(4), 9060);
        T.due("firstNobody(60) on day 9060", x.firstNobody(60), 9065);
    }

    /** "n DAYS (1 .. 6)"; "NONE (no such DAY i, too). OUTSIDE: n." */
    private static void sendBounds() {
        T.promise(15);
        DoubleChain[] all = {new DoubleChain(), Check.of("k1;"), Check.of("k1;" + Check.people(6, "0 0 0 9"))};
        for (int a = 0; a < all.length; a++) {
            DoubleChain x = all[a];
            for (int i : new int[] {-1, 0, 7}) {
                T.due("send(0, " + i + ")", x.send(0, i), Check.OUTSIDE);
                T.due("send(7, " + i + ")", x.send(7, i), Check.OUTSIDE);
                T.due("send(-1, " + i + ")", x.send(-1, i), Check.OUTSIDE);
            }
            for (int n = 1; n <= 6; n++) {
                T.due("send(" + n + ", -1)", x.send(n, -1), -1);
                for (int i = 0; i < n; i++) {
                    T.due("send(" + n + ", " + i + ")", x.send(n, i), a == 2 ? i : -1);
                }
                T.due("send(" + n + ", " + n + ")", x.send(n, n), -1);
            }
        }
    }

    /** "another one of THE CHAIN": as many as DAYS are enough, one less is not. */
    private static void sendNeedsAnother() {
        T.promise(15);
        for (int many = 0; many <= 8; many++) {
            DoubleChain x = Check.of("k1;" + Check.people(many, "0 0 0 9"));
            for (int n = 1; n <= 6; n++) {
                for (int i = 0; i < n; i++) {
                    T.due("send(" + n + ", " + i + ") of " + many, x.send(n, i), n <= many ? i : -1);
                }
            }
        }
        DoubleChain x = Check.of("k1;" + Check.people(7, "0 0 0 9"));
        x.attempt();
        T.due("send(6, 0), the king is dead", x.send(6, 0), 1);
        T.due("send(6, 5), the king is dead", x.send(6, 5), 6);
        x.attempt();
        T.due("send(6, 0), five live", x.send(6, 0), -1);
        T.due("send(5, 4), five live", x.send(5, 4), 6);
    }

    /** "who GOES OUT on it (whoever stands ahead of him)"; from this DAY on, and the DAYS come round. */
    private static void sendWhoeverStandsAhead() {
        T.promise(15);
        DoubleChain x = Check.of("k1;p0 0 0 9;p0 1 0 9;p0 3 0 9;d2 0 0;d1 0 0;d0 0 0;");
        int[][] want = {{2, 1, 0}, {1, 0, 2}, {0, 2, 1}, {2, 1, 0}};
        for (int day = 0; day < want.length; day++) {
            for (int i = 0; i < 3; i++) {
                T.due("send(3, " + i + ") on day " + day, x.send(3, i), want[day][i]);
            }
            T.due("send(4, 0) on day " + day, x.send(4, 0), -1);
            x.day(1);
        }
    }

    /** "the first such (DAY by DAY the lesser PERSON)". */
    private static void sendTheLesser() {
        T.promise(15);
        // The king alone goes out on the last of six days.
        DoubleChain x = Check.of("k1;p0 0 0 9;" + Check.people(7, "0 0 0 8") + "d0 0 8;".repeat(5) + "d0 0 9;");
        int[] want = {1, 2, 3, 4, 5, 0};
        for (int i = 0; i < 6; i++) {
            T.due("send(6, " + i + ")", x.send(6, i), want[i]);
            T.due("send(5, " + i + ")", x.send(5, i), i < 5 ? i : -1);
        }
        // The eighth alone goes out on the first.
        x = Check.of("k1;" + Check.people(7, "0 0 0 8") + "p0 0 0 9;" + "d0 0 9;" + "d0 0 8;".repeat(5));
        int[] last = {7, 0, 1, 2, 3, 4};
        for (int i = 0; i < 6; i++) {
            T.due("send(6, " + i + ") of the eighth", x.send(6, i), last[i]);
        }
    }

    /** "OUTSIDE (SETS 0 .. 255)". */
    private static void byMarksBounds() {
        T.promise(16);
        DoubleChain[] all = {new DoubleChain(), Check.of("k1;"), Check.of("k1;p0 0 0 9;p255 0 0 9;")};
        for (int i = 0; i < all.length; i++) {
            DoubleChain x = all[i];
            T.due("byMarks(-1, 0)", x.byMarks(-1, 0), Check.OUTSIDE);
            T.due("byMarks(256, 0)", x.byMarks(256, 0), Check.OUTSIDE);
            T.due("byMarks(0, -1)", x.byMarks(0, -1), Check.OUTSIDE);
            T.due("byMarks(0, 256)", x.byMarks(0, 256), Check.OUTSIDE);
            T.due("byMarks(0, 0)", x.byMarks(0, 0), i == 2 ? 3 : 0);
            T.due("byMarks(255, 0)", x.byMarks(255, 0), i == 2 ? 2 : 0);
            T.due("byMarks(0, 255)", x.byMarks(0, 255), i == 2 ? 1 : 0);
            T.due("byMarks(255, 255)", x.byMarks(255, 255), 0);
        }
    }

    /** "who of THE CHAIN has all MARKS of a SET, none of another SET". */
    private static void byMarksOfTheChain() {
        T.promise(16);
        DoubleChain x = Check.of("k1;p1 0 0 9;p2 0 0 9;p4 0 0 9;p8 0 0 9;p16 0 0 9;p32 0 0 9;p64 0 0 9;p128 0 0 9;");
        for (int dead = 0; dead <= 8; dead++) {
            int living = 256 - (1 << dead);
            T.due("byMarks(0, 0), " + dead + " dead", x.byMarks(0, 0), living);
            for (int k = 0; k < 8; k++) {
                int one = 1 << k;
                T.due("byMarks(" + one + ", 0), " + dead + " dead", x.byMarks(one, 0), living & one);
                T.due("byMarks(0, " + one + "), " + dead + " dead", x.byMarks(0, one), living & ~one);
            }
            x.attempt();
        }
        T.due("byMarks(3, 0): all of them", x.byMarks(3, 0), 0);
    }

    /** "UNKNOWN, NOT: it lives". */
    private static void diedAtBounds() {
        T.promise(17);
        T.due("diedAt(0), no court", new DoubleChain().diedAt(0), Check.UNKNOWN);
        DoubleChain x = Check.of("k1;" + Check.people(8, "0 0 0 9"));
        T.due("diedAt(-1)", x.diedAt(-1), Check.UNKNOWN);
        T.due("diedAt(8)", x.diedAt(8), Check.UNKNOWN);
        for (int p = 0; p < 8; p++) {
            T.due("diedAt(" + p + ")", x.diedAt(p), Check.NOT);
        }
        x = Check.of("k1;p0 0 0 9;");
        x.hire();
        T.due("diedAt(1), hired", x.diedAt(1), Check.NOT);
        x.undo();
        T.due("diedAt(1), he is none now", x.diedAt(1), Check.UNKNOWN);
    }

    /** "(0 to how many live)". */
    private static void diedAtPlaces() {
        T.promise(17);
        for (int dead = 0; dead < 8; dead++) {
            DoubleChain x = Check.of("k1;" + Check.people(dead, "0 0 0 8") + "p0 0 0 9;" + Check.people(7 - dead, "0 0 0 8") + "d0 0 9;d0 0 8;");
            T.due("attempt()", x.attempt(), dead);
            T.due("diedAt(" + dead + ") of eight", x.diedAt(dead), dead);
            x.day(1);
            for (int i = 0; i < 7; i++) {
                x.attempt();
            }
            for (int p = 0; p < 8; p++) {
                T.due("diedAt(" + p + "), nobody lives", x.diedAt(p), 0);
            }
        }
        DoubleChain x = Check.of("k1;" + Check.people(8, "0 0 0 9"));
        for (int i = 0; i < 7; i++) {
            x.attempt();
            for (int p = 0; p <= i; p++) {
                T.due("diedAt(" + p + "), those behind live", x.diedAt(p), 0);
            }
        }
    }

    /** "p = NONE how many, else its class (0: it is dead). UNKNOWN." */
    private static void classesBounds() {
        T.promise(18);
        DoubleChain x = new DoubleChain();
        T.due("classes(-1), no court", x.classes(-1), 0);
        T.due("classes(0), no court", x.classes(0), Check.UNKNOWN);
        T.due("classes(-2), no court", x.classes(-2), Check.UNKNOWN);
        x = Check.of("k1;" + Check.people(8, "7 0 0 9"));
        T.due("classes(-2)", x.classes(-2), Check.UNKNOWN);
        T.due("classes(-1)", x.classes(-1), 1);
        T.due("classes(0)", x.classes(0), 255);
        T.due("classes(7)", x.classes(7), 255);
        T.due("classes(8)", x.classes(8), Check.UNKNOWN);
        for (int p = 0; p < 8; p++) {
            x.attempt();
            T.due("classes(" + p + "), dead", x.classes(p), 0);
            T.due("classes(7)", x.classes(7), p < 7 ? 256 - (2 << p) : 0);
        }
        T.due("classes(-1), nobody lives", x.classes(-1), 0);
    }

    /** From all alike to each alone. */
    private static void classesCounted() {
        T.promise(18);
        for (int many = 1; many <= 8; many++) {
            StringBuilder text = new StringBuilder("k1;");
            for (int p = 0; p < 8; p++) {
                text.append('p').append(255 - p % many).append(" 0 0 9;");
            }
            DoubleChain x = Check.of(text.toString());
            T.due("classes(-1) of " + many, x.classes(-1), many);
            for (int p = 0; p < 8; p++) {
                int want = 0;
                for (int q = p % many; q < 8; q += many) {
                    want += 1 << q;
                }
                T.due("classes(" + p + ") of " + many, x.classes(p), want);
            }
        }
    }

    /** "(NONE for both, if nobody lives.)"; one alone needs no MARK. */
    private static void tellOfFew() {
        T.promise(19);
        dueTold(new DoubleChain(), -1, -1);
        dueTold(Check.of("k1;"), -1, -1);
        dueTold(Check.of("k1;p255 0 0 9;"), 0, 0);
        DoubleChain x = Check.of("k1;p255 0 0 9;p255 0 0 9;");
        dueTold(x, -1, -1);
        x.attempt();
        dueTold(x, 0, 0);
        x.attempt();
        dueTold(x, -1, -1);
        x.undo();
        x.hire();
        dueTold(x, -1, -1);
        dueTold(Check.of("k1;p1 0 0 9;p2 0 0 9;p2 0 0 9;"), 1, -1);
        dueTold(Check.of("k1;p2 0 0 9;p1 0 0 9;p2 0 0 9;"), -1, -1);
    }

    private static void dueTold(DoubleChain x, int king, int all) {
        T.due("tell(false)", x.tell(false), king);
        T.due("tell(true)", x.tell(true), all);
    }

    /** "the fewest MARKS": from 1 to 7, though fewer numbers would be less SETS. */
    private static void tellTheFewest() {
        T.promise(19);
        StringBuilder text = new StringBuilder("k1;p0 0 0 9;");
        for (int many = 1; many <= 7; many++) {
            text.append('p').append(1 << (many - 1)).append(" 0 0 9;");
            int set = (1 << many) - 1;
            dueTold(Check.of(text.toString()), set, set);
        }
        text = new StringBuilder("k1;p255 0 0 9;");
        for (int many = 1; many <= 7; many++) {
            text.append('p').append(255 - (256 >> many)).append(" 0 0 9;");
            int set = 256 - (256 >> many);
            dueTold(Check.of(text.toString()), set, set);
        }
        // Marks 0 and 1 would part them, but 7 alone does, too.
        dueTold(Check.of("k1;p131 0 0 9;p1 0 0 9;p2 0 0 9;"), 128, 3);
        dueTold(Check.of("k1;p0 0 0 9;p129 0 0 9;p130 0 0 9;p131 0 0 9;"), 128, 3);
    }

    /** "of like ones the least SET". */
    private static void tellTheLeast() {
        T.promise(19);
        for (int k = 0; k < 8; k++) {
            int own = 256 - (1 << k);
            dueTold(Check.of("k1;p0 0 0 9;p" + own + " 0 0 9;"), 1 << k, 1 << k);
            dueTold(Check.of("k1;p" + own + " 0 0 9;p0 0 0 9;"), 1 << k, 1 << k);
        }
        dueTold(Check.of("k1;p0 0 0 9;p85 0 0 9;p170 0 0 9;"), 3, 3);
        dueTold(Check.of("k1;p0 0 0 9;p80 0 0 9;p160 0 0 9;"), 48, 48);
        dueTold(Check.of("k1;p0 0 0 9;p80 0 0 9;p32 0 0 9;p112 0 0 9;"), 48, 48);
    }

    /** "the shortest beginning of THE CHAIN .. (0 without any DAY told); NONE". */
    private static void reign() {
        T.promise(20);
        T.due("reign(), no court", new DoubleChain().reign(), 0);
        for (int many = 0; many <= 8; many++) {
            T.due("reign() of " + many + ", no day told", Check.of("k1;" + Check.people(many, "0 7 15 0")).reign(), 0);
            T.due("reign(), none of " + many, Check.of("k1;" + Check.people(many, "0 7 15 0") + "d0 0 0;").reign(), -1);
            if (many > 0) {
                String last = Check.people(many - 1, "0 7 15 0") + "p0 0 0 9;";
                T.due("reign(), the last of " + many, Check.of("k1;" + last + "d2 3 9;").reign(), many);
                T.due("reign(), the first of " + many, Check.of("k1;" + Check.people(many, "0 0 0 9") + "d2 3 9;").reign(), 1);
            }
        }
        DoubleChain x = Check.of("k1;p0 0 0 9;p0 0 0 8;p0 0 0 9;d0 0 9;");
        T.due("reign()", x.reign(), 1);
        x.attempt();
        T.due("reign(), a chain of two", x.reign(), 2);
        x.attempt();
        T.due("reign(), a chain of one", x.reign(), -1);
        x.attempt();
        T.due("reign(), a chain of one, nobody died", x.reign(), -1);
    }

    /** "on each DAY told somebody GOES OUT", the tenth, too. */
    private static void reignOfManyDays() {
        T.promise(20);
        for (int d = 0; d < 10; d++) {
            String days = "d0 0 0;".repeat(d) + "d1 0 0;" + "d0 0 0;".repeat(9 - d);
            T.due("reign(), day " + d + " needs the second", Check.of("k1;p0 2 0 9;p0 0 0 9;p0 0 0 9;" + days).reign(), 2);
            T.due("reign(), day " + d + " has nobody", Check.of("k1;p0 2 0 9;p0 2 0 9;" + days).reign(), -1);
        }
    }

    /** "the fewest DAYS from now (0 .. 99) behind which all of THE CHAIN are SHOWN (nobody dies); NONE". */
    private static void shownAll() {
        T.promise(21);
        T.due("shownAll(), no court", new DoubleChain().shownAll(), Check.NOT);
        T.due("shownAll(), nobody at all", Check.of("k1;").shownAll(), 0);
        T.due("shownAll(), one never is", Check.of("k1;p0 0 0 8;d0 0 9;").shownAll(), -1);
        for (int d = 0; d < 10; d++) {
            String days = "d0 0 0;".repeat(d) + "d1 0 0;" + "d0 0 0;".repeat(9 - d);
            DoubleChain x = Check.of("k1;p0 2 0 9;p0 0 0 9;" + days);
            int behind = d == 0 ? 2 : d + 1;
            T.due("shownAll(), rain on day " + d, x.shownAll(), behind);
            for (int left = behind - 1; left >= 0; left--) {
                x.day(1);
                T.due("shownAll(), rain on day " + d + ", " + left + " left", x.shownAll(), left);
            }
            x.day(60);
            T.due("shownAll(), all were", x.shownAll(), 0);
            x.hire();
            T.due("shownAll(), one is hired who never is", x.shownAll(), -1);
        }
        DoubleChain x = Check.of("k1;p0 0 0 9;p0 0 0 9;");
        x.attempt();
        x.attempt();
        T.due("shownAll(), nobody lives", x.shownAll(), 0);
    }

    /** On the last of ten days from now, the days coming round; of one hired, the dead left out. */
    private static void shownAllComesRound() {
        T.promise(21);
        DoubleChain x = Check.of("k1;p0 5 0 9;p0 0 0 8;d0 0 9;d1 0 9;" + "d0 0 9;".repeat(7) + "d2 0 8;");
        int[] want = {10, 9, 8, 7, 6, 5, 4, 3, 2, 1, 0};
        for (int t = 0; t < want.length; t++) {
            T.due("shownAll() on day " + t, x.shownAll(), want[t]);
            x.day(1);
        }
        x = Check.of("k1;p0 2 0 9;p0 0 0 9;d1 0 0;" + "d0 0 0;".repeat(9));
        x.day(1);
        x.attempt();
        T.due("shownAll(), who is left was shown", x.shownAll(), 0);
        x.hire();
        T.due("shownAll(), one is hired, and it rains in nine days", x.shownAll(), -1);
        x.undo();
        x.undo();
        T.due("shownAll(), the king, too, on a day of sun", x.shownAll(), 1);
    }

    /** "UNKNOWN": one that there is not, one twice; 0 to 8. */
    private static void apart() {
        T.promise(22);
        DoubleChain x = Check.of("k1;p0 0 0 9;p1 0 0 9;p3 0 0 9;p7 0 0 9;p15 0 0 9;p31 0 0 9;p63 0 0 9;p255 0 0 9;");
        for (int p = 0; p < 8; p++) {
            for (int q = 0; q < 8; q++) {
                int want = p == q ? Check.UNKNOWN : Math.abs((p == 7 ? 8 : p) - (q == 7 ? 8 : q));
                T.due("apart(" + p + ", " + q + ")", x.apart(p, q), want);
            }
            T.due("apart(" + p + ", 8)", x.apart(p, 8), Check.UNKNOWN);
            T.due("apart(8, " + p + ")", x.apart(8, p), Check.UNKNOWN);
            T.due("apart(" + p + ", -1)", x.apart(p, -1), Check.UNKNOWN);
            T.due("apart(-1, " + p + ")", x.apart(-1, p), Check.UNKNOWN);
        }
        x = Check.of("k1;p9 0 0 9;");
        T.due("apart(0, 1), he is not yet", x.apart(0, 1), Check.UNKNOWN);
        x.hire();
        T.due("apart(0, 1), hired: alike", x.apart(0, 1), 0);
        x.attempt();
        T.due("apart(0, 1), one is dead", x.apart(0, 1), 0);
        T.due("apart(0, 0), dead", x.apart(0, 0), Check.UNKNOWN);
    }

    /** "n DAYS (0 .. 60)"; "q 0 .. 100". */
    private static void safeBounds() {
        T.promise(23);
        for (DoubleChain x : new DoubleChain[] {new DoubleChain(), Check.of("k1;"), Check.of("k1;p0 0 0 9;d0 0 0;")}) {
            T.due("safe(-1, 0)", x.safe(-1, 0), Check.OUTSIDE);
            T.due("safe(61, 0)", x.safe(61, 0), Check.OUTSIDE);
            T.due("safe(0, -1)", x.safe(0, -1), Check.OUTSIDE);
            T.due("safe(0, 101)", x.safe(0, 101), Check.OUTSIDE);
            T.due("safe(61, 101)", x.safe(61, 101), Check.OUTSIDE);
            T.due("safe(0, 0)", x.safe(0, 0), 1000000000);
            T.due("safe(0, 100)", x.safe(0, 100), 1000000000);
            T.due("safe(1, 0)", x.safe(1, 0), 1000000000);
            T.due("safe(1, 1)", x.safe(1, 1), 990000000);
            T.due("safe(1, 99)", x.safe(1, 99), 10000000);
            T.due("safe(1, 100)", x.safe(1, 100), 0);
            T.due("safe(60, 0)", x.safe(60, 0), 1000000000);
            T.due("safe(60, 100)", x.safe(60, 100), 0);
            T.due("safe(60, 1)", x.safe(60, 1), odds(60, 1, new int[] {0}, 0));
            T.due("safe(59, 1)", x.safe(59, 1), odds(59, 1, new int[] {0}, 0));
        }
    }

    private static int odds(int n, int q, int[] dangers, int today) {
        long odds = 1000000000;
        for (int t = today; t < today + n; t++) {
            odds -= (odds * Math.min(100, q + dangers[t % dangers.length]) + 99) / 100;
        }
        return (int) odds;
    }

    /** "each by q of a hundred and DANGER of its DAY (this one first; 100 at most)". */
    private static void safeAtMostAHundred() {
        T.promise(23);
        for (int danger = 0; danger <= 9; danger++) {
            DoubleChain x = Check.of("k1;d0 0 " + danger + ";");
            for (int q = 0; q <= 100; q++) {
                int left = Math.max(0, 100 - q - danger);
                T.due("safe(1, " + q + ") by danger " + danger, x.safe(1, q), left * 10000000);
                T.due("safe(2, " + q + ") by danger " + danger, x.safe(2, q), left * left * 100000);
            }
        }
        DoubleChain x = Check.of("k1;d0 0 9;d0 0 0;d0 0 4;");
        for (int today = 0; today <= 4; today++) {
            for (int n = 0; n <= 60; n++) {
                T.due("safe(" + n + ", 2) on day " + today, x.safe(n, 2), odds(n, 2, new int[] {9, 0, 4}, today));
            }
            x.day(1);
        }
    }

    /** "(cut)", after each DAY. */
    private static void safeIsCut() {
        T.promise(23);
        DoubleChain x = Check.of("k1;");
        T.due("safe(4, 99)", x.safe(4, 99), 10);
        T.due("safe(5, 99)", x.safe(5, 99), 0);
        T.due("safe(9, 90)", x.safe(9, 90), 1);
        T.due("safe(10, 90)", x.safe(10, 90), 0);
        T.due("safe(30, 50)", x.safe(30, 50), 0);
        T.due("safe(29, 50)", x.safe(29, 50), 1);
        for (int q = 0; q <= 100; q++) {
            T.due("safe(60, " + q + ")", x.safe(60, q), odds(60, q, new int[] {0}, 0));
        }
    }
}
