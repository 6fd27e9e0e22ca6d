/** The edges that promises 24 to 32 and their sentences of section 3 name: the last that is allowed, the first that is not. */
public final class WatchedEdgeTest {
    private static final Check T = new Check();

    public static void main(String[] args) {
        watchBounds();
        watchedAtMost();
        fitsAll();
        fitsTheDeadToo();
        lookOnParts();
        lookOnTheLeastGreatest();
        lookOnNone();
        writeBounds();
        writtenAtMost();
        tear();
        judgeFirstAndLast();
        judgeOfMarks();
        judgeOfOneWhoIsNone();
        seedBounds();
        draws();
        drawsAreCut();
        keepBounds();
        goBackBounds();
        imagesAreTwo();
        imagesKeepSectionTwo();
        imagesAreGone();
        T.end();
    }

    // ---- watched

    /** "UNKNOWN": a DAY told that there is not. */
    private static void watchBounds() {
        T.promise(24);
        T.due("watch(0, true), no court", new DoubleChain().watch(0, true), Check.UNKNOWN);
        for (int days = 0; days <= 10; days++) {
            DoubleChain x = Check.of("k1;p0 0 0 9;" + "d0 0 0;".repeat(days));
            x.day(20);
            T.due("watch(-1, true) of " + days, x.watch(-1, true), Check.UNKNOWN);
            T.due("watch(" + days + ", true)", x.watch(days, true), Check.UNKNOWN);
            if (days > 0) {
                T.due("watch(0, true) of " + days, x.watch(0, true), 1);
                T.due("watch(" + (days - 1) + ", false)", x.watch(days - 1, false), 2);
            }
            T.due("told(9)", x.told(9), days > 0 ? 2 : 0);
        }
    }

    /** "WATCHED (8 at most)"; "UNKNOWN, FULL (8)". */
    private static void watchedAtMost() {
        T.promise(24);
        DoubleChain x = Check.of("k1;p0 0 0 9;d0 0 0;");
        for (int i = 1; i <= 8; i++) {
            T.due("watch(0, true)", x.watch(0, true), i);
        }
        T.due("watch(0, false), the ninth", x.watch(0, false), Check.FULL);
        T.due("watch(1, false), the ninth", x.watch(1, false), Check.UNKNOWN);
        T.due("watch(-1, false), the ninth", x.watch(-1, false), Check.UNKNOWN);
        T.due("told(9)", x.told(9), 8);
        T.due("fits(): the ninth was not taken", x.fits(), 1);
        x.tear();
        for (int i = 1; i <= 7; i++) {
            x.watch(0, true);
        }
        T.due("watch(0, false), the eighth", x.watch(0, false), 8);
        T.due("fits(): the eighth was", x.fits(), 0);
    }

    /** "who would have done all that was WATCHED": all, of nothing; each of the eight counts. */
    private static void fitsAll() {
        T.promise(25);
        for (int many = 0; many <= 8; many++) {
            DoubleChain x = Check.of("k1;" + Check.people(many, "0 1 0 9") + "d0 0 0;d1 0 0;");
            T.due("fits() of " + many + ", nothing watched", x.fits(), (1 << many) - 1);
            x.watch(0, false);
            T.due("fits() of " + many + ", in by sun", x.fits(), (1 << many) - 1);
            x.watch(1, true);
            T.due("fits() of " + many + ", out by rain", x.fits(), (1 << many) - 1);
            x.watch(1, false);
            T.due("fits() of " + many + ", in by rain", x.fits(), 0);
        }
        for (int wrong = 0; wrong < 8; wrong++) {
            DoubleChain x = Check.of("k1;p0 1 0 9;d0 0 0;");
            for (int i = 0; i < 8; i++) {
                x.watch(0, i == wrong);
            }
            T.due("fits(), the " + wrong + "th of eight he would not", x.fits(), 0);
        }
    }

    /** "PERSONS that ever were (a SET, dead ones, too)". */
    private static void fitsTheDeadToo() {
        T.promise(25);
        DoubleChain x = Check.of("k1;" + Check.people(7, "0 0 0 9") + "d0 0 9;");
        x.hire();
        x.watch(0, true);
        for (int p = 0; p < 8; p++) {
            T.due("attempt()", x.attempt(), p);
            T.due("fits(), " + p + " is dead", x.fits(), 255);
        }
        for (int p = 0; p < 8; p++) {
            x.undo();
        }
        x.undo();
        T.due("fits(), the one hired is none", x.fits(), 127);
    }

    /** "the greatest part that would do alike is least; of like ones the least". */
    private static void lookOnParts() {
        T.promise(26);
        // Day d lets 9 - d fears and more go out: of fears 0 to 7, so 1, 2, .. do.
        StringBuilder text = new StringBuilder("k1;");
        for (int f = 0; f < 8; f++) {
            text.append("p0 0 0 ").append(f).append(';');
        }
        for (int g = 9; g >= 0; g--) {
            text.append("d0 0 ").append(g).append(';');
        }
        DoubleChain x = Check.of(text.toString());
        T.due("lookOn(): four and four", x.lookOn(), 5);
        x.watch(5, true);
        T.due("fits()", x.fits(), 240);
        T.due("lookOn(): two and two", x.lookOn(), 3);
        x.watch(3, true);
        T.due("lookOn(): one and one", x.lookOn(), 2);
        x.watch(2, true);
        T.due("lookOn(): one alone", x.lookOn(), -1);
        T.due("fits()", x.fits(), 128);
    }

    /** One in and many out part as many in and one out do; the tenth day is looked at, too. */
    private static void lookOnTheLeastGreatest() {
        T.promise(26);
        for (int d = 0; d < 10; d++) {
            String days = "d0 0 0;".repeat(d) + "d1 0 0;" + "d0 0 0;".repeat(9 - d);
            T.due("lookOn(), day " + d + ", one in", Check.of("k1;" + Check.people(7, "0 0 0 9") + "p0 2 0 9;" + days).lookOn(), d);
            T.due("lookOn(), day " + d + ", one out", Check.of("k1;" + Check.people(7, "0 2 0 9") + "p0 0 0 9;" + days).lookOn(), d);
        }
        String three = "p0 1 0 9;p0 2 0 9;p0 0 0 9;";
        T.due("lookOn(), of like ones", Check.of("k1;" + three + "d2 0 0;d1 0 0;d0 0 0;").lookOn(), 1);
        T.due("lookOn(), of like ones", Check.of("k1;" + three + "d2 0 0;d0 0 0;d1 0 0;").lookOn(), 1);
        String five = Check.people(3, "0 1 0 9") + Check.people(2, "0 2 0 9");
        T.due("lookOn(): 3 in as 2 in", Check.of("k1;" + five + "d2 0 0;d0 0 0;d1 0 0;").lookOn(), 1);
        T.due("lookOn(): 2 in as 3 in", Check.of("k1;" + five + "d2 0 0;d1 0 0;d0 0 0;").lookOn(), 1);
    }

    /** "NONE: none parts them". */
    private static void lookOnNone() {
        T.promise(26);
        T.due("lookOn(), no court", new DoubleChain().lookOn(), -1);
        T.due("lookOn(), nobody at all", Check.of("k1;d0 0 0;").lookOn(), -1);
        T.due("lookOn(), no day told", Check.of("k1;p0 0 0 9;p0 7 0 9;").lookOn(), -1);
        T.due("lookOn(), one alone", Check.of("k1;p0 0 0 9;d0 0 0;").lookOn(), -1);
        T.due("lookOn(), all out", Check.of("k1;" + Check.people(8, "0 0 0 9") + "d0 0 9;").lookOn(), -1);
        T.due("lookOn(), all in", Check.of("k1;" + Check.people(8, "0 0 0 8") + "d0 0 9;").lookOn(), -1);
        DoubleChain x = Check.of("k1;p0 0 0 9;p0 1 0 9;d0 0 0;");
        T.due("lookOn(), one out, one in", x.lookOn(), 0);
        x.attempt();
        T.due("lookOn(), the dead one, too", x.lookOn(), 0);
        x.watch(0, true);
        T.due("lookOn(), one fits", x.lookOn(), -1);
        x.watch(0, false);
        T.due("lookOn(), none fits", x.lookOn(), -1);
    }

    // ---- the book

    /** "UNKNOWN, OUTSIDE, FULL": a PERSON that there is not; 0 .. 255. */
    private static void writeBounds() {
        T.promise(27);
        T.due("write(0, 0), no court", new DoubleChain().write(0, 0), Check.UNKNOWN);
        T.due("write(0, 256), no court", new DoubleChain().write(0, 256), Check.UNKNOWN);
        DoubleChain x = Check.of("k1;" + Check.people(7, "0 0 0 9"));
        T.due("write(0, 0)", x.write(0, 0), 1);
        T.due("write(6, 255)", x.write(6, 255), 2);
        T.due("write(-1, 0)", x.write(-1, 0), Check.UNKNOWN);
        T.due("write(7, 0)", x.write(7, 0), Check.UNKNOWN);
        T.due("write(7, 256)", x.write(7, 256), Check.UNKNOWN);
        T.due("write(-1, -1)", x.write(-1, -1), Check.UNKNOWN);
        T.due("write(0, -1)", x.write(0, -1), Check.OUTSIDE);
        T.due("write(0, 256)", x.write(0, 256), Check.OUTSIDE);
        x.hire();
        T.due("write(7, 0), hired", x.write(7, 0), 3);
        T.due("write(8, 0)", x.write(8, 0), Check.UNKNOWN);
        x.attempt();
        T.due("write(0, 0), dead", x.write(0, 0), 4);
        x.undo();
        x.undo();
        T.due("write(7, 0), he is none now", x.write(7, 0), Check.UNKNOWN);
        T.due("told(10)", x.told(10), 4);
    }

    /** "THE BOOK (15 at most)". */
    private static void writtenAtMost() {
        T.promise(27);
        DoubleChain x = Check.of("k1;p9 0 0 9;");
        for (int i = 1; i <= 15; i++) {
            T.due("write(0, 9)", x.write(0, 9), i);
        }
        T.due("write(0, 8), the sixteenth", x.write(0, 8), Check.FULL);
        T.due("write(0, 256), the sixteenth", x.write(0, 256), Check.OUTSIDE);
        T.due("write(0, -1), the sixteenth", x.write(0, -1), Check.OUTSIDE);
        T.due("write(1, 9), the sixteenth", x.write(1, 9), Check.UNKNOWN);
        T.due("write(1, 256), the sixteenth", x.write(1, 256), Check.UNKNOWN);
        T.due("told(10)", x.told(10), 15);
        T.due("judge(): the sixteenth was not taken", x.judge(), -1);
        x.tear();
        T.due("write(0, 8), torn", x.write(0, 8), 1);
        T.due("judge()", x.judge(), 0);
    }

    /** "Nothing WATCHED, THE BOOK is empty: how much both had": 0 to 23. */
    private static void tear() {
        T.promise(28);
        for (int watched = 0; watched <= 8; watched++) {
            DoubleChain x = Check.of("k1;p9 0 0 9;d0 0 0;");
            for (int written = 0; written <= 15; written += 5) {
                for (int i = 0; i < watched; i++) {
                    x.watch(0, false);
                }
                for (int i = 0; i < written; i++) {
                    x.write(0, 0);
                }
                T.due("judge()", x.judge(), written > 0 ? 0 : -1);
                T.due("fits()", x.fits(), watched > 0 ? 0 : 1);
                T.due("tear()", x.tear(), watched + written);
                T.due("told(9)", x.told(9), 0);
                T.due("told(10)", x.told(10), 0);
                T.due("judge(), torn", x.judge(), -1);
                T.due("fits(), torn", x.fits(), 1);
                T.due("tear(), torn", x.tear(), 0);
            }
        }
        T.due("tear(), no court", new DoubleChain().tear(), 0);
    }

    /** "WRONG: the first that is otherwise now .. NONE": of fifteen entries each. */
    private static void judgeFirstAndLast() {
        T.promise(29);
        T.due("judge(), no court", new DoubleChain().judge(), -1);
        T.due("judge(), nothing written", Check.of("k1;p9 0 0 9;").judge(), -1);
        for (int wrong = 0; wrong <= 15; wrong++) {
            DoubleChain x = Check.of("k1;p9 0 0 9;p6 0 0 9;");
            for (int i = 0; i < 15; i++) {
                x.write(i % 2, i >= wrong ? 0 : i % 2 == 0 ? 9 : 6);
            }
            T.due("judge(), wrong from " + wrong + " on", x.judge(), wrong < 15 ? wrong : -1);
        }
    }

    /** Each mark counts; the dead have theirs. */
    private static void judgeOfMarks() {
        T.promise(29);
        for (int k = 0; k < 8; k++) {
            for (int marks : new int[] {0, 255, 170}) {
                DoubleChain x = Check.of("k1;p" + marks + " 0 0 9;");
                x.write(0, marks);
                x.attempt();
                T.due("judge(), dead", x.judge(), -1);
                x.write(0, marks ^ (1 << k));
                T.due("judge(), mark " + k + " is otherwise", x.judge(), 1);
            }
        }
    }

    /** "(of a PERSON that was HIRED, but is none now, too)". */
    private static void judgeOfOneWhoIsNone() {
        T.promise(29);
        DoubleChain x = Check.of("k1;p0 0 0 9;");
        x.keep(0);
        x.hire();
        x.write(0, 0);
        x.write(1, 0);
        T.due("judge(), he is", x.judge(), -1);
        x.undo();
        T.due("judge(), he is none", x.judge(), 1);
        x.hire();
        T.due("judge(), he is one again", x.judge(), -1);
        T.due("goBack(0)", x.goBack(0), 1);
        T.due("judge(), he is none by an image", x.judge(), 1);
        x = Check.of("k1;p5 0 0 9;");
        x.hire();
        x.write(1, 5);
        x.undo();
        T.due("judge(), he is none, though marks would be as written", x.judge(), 0);
    }

    // ---- the seed

    /** "THE SEED becomes v (0 .. 2147483647): what it was. OUTSIDE." */
    private static void seedBounds() {
        T.promise(30);
        DoubleChain x = new DoubleChain();
        T.due("seed(-1)", x.seed(-1), Check.OUTSIDE);
        T.due("seed(-2147483648)", x.seed(Integer.MIN_VALUE), Check.OUTSIDE);
        T.due("seed(0): 0 at first", x.seed(0), 0);
        T.due("seed(1)", x.seed(1), 0);
        T.due("seed(2147483647)", x.seed(Integer.MAX_VALUE), 1);
        T.due("seed(-1)", x.seed(-1), Check.OUTSIDE);
        T.due("seed(2147483646)", x.seed(2147483646), 2147483647);
        T.due("seed(0)", x.seed(0), 2147483646);
    }

    /** "each DRAW it becomes it times 1103515245 and 12345, left over by 2 to the 31". */
    private static void draws() {
        T.promise(30);
        int[] seeds = {0, 1, 2, 65535, 65536, 1073741823, 1073741824, 2147483646, 2147483647};
        for (int seed : seeds) {
            DoubleChain x = Check.of("k1;");
            x.seed(seed);
            x.drift(1);
            long next = (1103515245L * seed + 12345L) & 0x7fffffffL;
            T.due("seed(0) behind a draw of " + seed, x.seed(seed), (int) next);
            x.drift(2);
            next = (1103515245L * next + 12345L) & 0x7fffffffL;
            T.due("seed(0) behind two draws of " + seed, x.seed(0), (int) next);
        }
    }

    /** "the DRAW of n is it / 65536, left over by n": where it is a hundred's first and the one below. */
    private static void drawsAreCut() {
        T.promise(30);
        // Behind its draw the seed is 65536 times 100, one less, and the last of the same hundred's first.
        long[] behind = {6553600L, 6553599L, 6553600L + 65535, 6553600L + 65536, 32700L * 65536, 32700L * 65536 - 1};
        int[] live = {1, 2, 1, 2, 1, 2};
        for (int i = 0; i < behind.length; i++) {
            DoubleChain x = Check.of("k1;p0 0 0 9;p0 0 0 9;d0 0 1;");
            x.seed(seedAheadOf(behind[i]));
            T.due("drift(1), the seed becomes " + behind[i], x.drift(1), live[i]);
            T.due("seed(0)", x.seed(0), (int) behind[i]);
        }
    }

    private static int seedAheadOf(long seed) {
        long inverse = 1;
        for (int i = 0; i < 5; i++) {
            inverse *= 2 - 1103515245L * inverse;
        }
        return (int) ((seed - 12345L) * inverse & 0x7fffffffL);
    }

    // ---- the images

    /** "IMAGE i becomes what is so (nothing can be undone then): 1. UNKNOWN." */
    private static void keepBounds() {
        T.promise(31);
        for (DoubleChain x : new DoubleChain[] {new DoubleChain(), Check.of("k1;"), Check.of("k1;p0 0 0 9;")}) {
            T.due("keep(-1)", x.keep(-1), Check.UNKNOWN);
            T.due("keep(2)", x.keep(2), Check.UNKNOWN);
            T.due("keep(0)", x.keep(0), 1);
            T.due("keep(1)", x.keep(1), 1);
            T.due("keep(0) again", x.keep(0), 1);
        }
        DoubleChain x = Check.of("k1;p0 0 0 9;");
        x.day(1);
        x.keep(2);
        x.keep(-1);
        T.due("told(11), nothing was kept", x.told(11), 1);
        x.keep(0);
        T.due("told(11), it was", x.told(11), 0);
        T.due("undo()", x.undo(), Check.NOT);
        T.due("told(4)", x.told(4), 1);
        x.day(1);
        T.due("told(11), a day later", x.told(11), 1);
        T.due("undo()", x.undo(), 0);
        T.due("told(4)", x.told(4), 1);
    }

    /** "UNKNOWN, NOT: it was not kept." */
    private static void goBackBounds() {
        T.promise(32);
        for (int kept = 0; kept <= 1; kept++) {
            DoubleChain x = Check.of("k1;p0 0 0 9;");
            for (int i = 0; i <= 1; i++) {
                T.due("goBack(" + i + ")", x.goBack(i), Check.NOT);
            }
            x.keep(kept);
            x.day(1);
            T.due("goBack(-1)", x.goBack(-1), Check.UNKNOWN);
            T.due("goBack(2)", x.goBack(2), Check.UNKNOWN);
            T.due("goBack(" + (1 - kept) + "), not kept", x.goBack(1 - kept), Check.NOT);
            T.due("told(11)", x.told(11), 1);
            T.due("told(4)", x.told(4), 1);
            T.due("goBack(" + kept + ")", x.goBack(kept), 1);
            T.due("told(11)", x.told(11), 0);
            T.due("undo()", x.undo(), Check.NOT);
            T.due("told(4)", x.told(4), 0);
            T.due("goBack(" + (1 - kept) + "), still not kept", x.goBack(1 - kept), Check.NOT);
        }
        DoubleChain x = new DoubleChain();
        T.due("goBack(0), no court", x.goBack(0), Check.NOT);
        x.keep(0);
        T.due("goBack(0), no court, kept", x.goBack(0), 1);
    }

    /** Each its own; what is done behind one changes neither; the latest counts; one can be gone back to again. */
    private static void imagesAreTwo() {
        T.promise(31);
        DoubleChain x = Check.of("k1;p1 0 0 9;p2 0 0 9;");
        x.day(1);
        x.keep(0);
        x.day(1);
        x.keep(1);
        x.day(5);
        x.attempt();
        for (int round = 0; round < 3; round++) {
            T.due("goBack(0)", x.goBack(0), 1);
            T.due("told(4)", x.told(4), 1);
            T.due("told(5)", x.told(5), 3);
            T.due("person(1, 0)", x.person(1, 0), 3);
            x.day(3);
            x.attempt();
            T.due("goBack(1)", x.goBack(1), 1);
            T.due("told(4)", x.told(4), 2);
            T.due("told(5)", x.told(5), 3);
            T.due("person(1, 0)", x.person(1, 0), 1);
            x.hire();
        }
        x.keep(0);
        x.day(1);
        T.due("goBack(0), kept anew", x.goBack(0), 1);
        T.due("told(4)", x.told(4), 2);
        T.due("told(1)", x.told(1), 3);
    }

    /** "IMAGES 0, 1 keep all of section 2, THE SEED"; not what was watched, written, fed. */
    private static void imagesKeepSectionTwo() {
        T.promise(32);
        DoubleChain x = Check.of("k9;p1 0 0 9;p2 0 0 9;d0 0 9;");
        x.day(1);
        x.seed(2147483647);
        x.watch(0, true);
        x.keep(1);
        x.hire();
        x.drift(60);
        x.watch(0, true);
        x.write(0, 1);
        x.feed('x');
        T.due("goBack(1)", x.goBack(1), 1);
        int[] want = {9, 2, 1, 1, 1, 3, 1, 0, 13, 2, 1, 0};
        for (int what = 0; what < want.length; what++) {
            T.due("told(" + what + ")", x.told(what), want[what]);
        }
        T.due("person(0, 0)", x.person(0, 0), 1);
        T.due("person(1, 0)", x.person(1, 0), 3);
        T.due("person(2, 0)", x.person(2, 0), Check.UNKNOWN);
        T.due("seed(0)", x.seed(0), 2147483647);
    }

    /** "IMAGES, what could be undone are gone; THE SEED stays" behind court(), but not behind one with a FAULT. */
    private static void imagesAreGone() {
        T.promise(3);
        for (String text : new String[] {"k1;", "", "   "}) {
            DoubleChain x = Check.of("k1;p0 0 0 9;");
            x.keep(0);
            x.keep(1);
            x.day(1);
            x.seed(77);
            Check.feed(x, "k1;x");
            T.due("court() with a fault", x.court(), -11);
            T.due("told(11) behind it", x.told(11), 1);
            Check.feed(x, text);
            T.due("court() of " + text, x.court(), 0);
            T.due("told(11) behind it", x.told(11), 0);
            T.due("goBack(0) behind it", x.goBack(0), Check.NOT);
            T.due("goBack(1) behind it", x.goBack(1), Check.NOT);
            T.due("undo() behind it", x.undo(), Check.NOT);
            T.due("seed(0) behind it", x.seed(0), 77);
        }
        DoubleChain x = Check.of("k1;p0 0 0 9;");
        x.keep(0);
        x.keep(1);
        x.day(1);
        Check.feed(x, "k1;x");
        x.court();
        T.due("goBack(0) behind a fault", x.goBack(0), 1);
        T.due("goBack(1) behind a fault", x.goBack(1), 1);
        T.due("told(4)", x.told(4), 0);
    }
}
