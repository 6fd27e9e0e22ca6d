import java.util.function.Supplier;
import java.util.function.ToIntFunction;

/**
 * "REFUSALS, of several the first in this order: UNKNOWN, OUTSIDE, NOT, FULL. What is refused changes nothing." Each
 * refused call is made on an object in some state; then all that it shows is as of one on which it was not made.
 */
public final class RefusalTest {
    private static final Check T = new Check();
    private static final int LEAST = Integer.MIN_VALUE;
    private static final int MOST = Integer.MAX_VALUE;

    private static String state = "";
    private static Supplier<DoubleChain> make = DoubleChain::new;
    private static String untouched = "";

    public static void main(String[] args) {
        courtCalls();
        doneCalls();
        triedCalls();
        watchedCalls();
        drawsAndImages();
        withoutACourt();
        withoutPeople();
        whereNobodyLives();
        whereNothingIsKept();
        whereTheTextIsFull();
        whereEightWere();
        whereDaysAreAbove9000();
        whereAllIsWatchedAndWritten();
        courtWithAFault();
        T.end();
    }

    // ---- how a refusal is looked at

    private static void in(String name, Supplier<DoubleChain> maker) {
        state = name;
        make = maker;
        untouched = View.whole(maker.get());
    }

    private static void refused(int promise, String call, int want, ToIntFunction<DoubleChain> calling) {
        T.promise(promise);
        DoubleChain x = make.get();
        T.due(call + ", " + state, calling.applyAsInt(x), want);
        T.same("what " + call + " leaves, " + state, View.whole(x), untouched);
    }

    private static void unknown(int promise, String call, ToIntFunction<DoubleChain> calling) {
        refused(promise, call, Check.UNKNOWN, calling);
    }

    private static void outside(int promise, String call, ToIntFunction<DoubleChain> calling) {
        refused(promise, call, Check.OUTSIDE, calling);
    }

    private static void not(int promise, String call, ToIntFunction<DoubleChain> calling) {
        refused(promise, call, Check.NOT, calling);
    }

    private static void full(int promise, String call, ToIntFunction<DoubleChain> calling) {
        refused(promise, call, Check.FULL, calling);
    }

    /** Something of all there is: a dead one, one hired, one undone, watched, written, image 0 kept, a text begun. */
    static DoubleChain rich() {
        DoubleChain x = Check.of("k100;p13 6 0 3;p12 4 2 5;p29 2 1 9;p13 0 8 1;d1 0 2;d0 1 4;d2 3 6;d0 3 9;");
        x.seed(3);
        x.day(2);
        x.attempt();
        x.keep(0);
        x.day(1);
        x.hire();
        x.drift(7);
        x.hire();
        x.undo();
        x.watch(0, false);
        x.watch(0, false);
        x.write(2, 29);
        x.write(1, 255);
        Check.feed(x, "k7;p200 0 0 9;");
        return x;
    }

    /** Something watched, written, kept, drawn ahead of the seed that is, and a text begun. */
    private static DoubleChain furnished(DoubleChain x) {
        x.watch(0, x.person(0, 6) == 1);
        x.write(0, x.person(0, 0));
        x.seed(1000);
        x.keep(0);
        x.seed(2000);
        Check.feed(x, "k7;d2 3 9;");
        return x;
    }

    // ---- too small, too great, not there

    private static void courtCalls() {
        in("in a rich state", RefusalTest::rich);
        for (int letter : new int[] {-1, 256, LEAST, MOST}) {
            outside(2, "feed(" + letter + ")", x -> x.feed(letter));
        }
        for (int what : new int[] {-1, 12, LEAST, MOST}) {
            outside(5, "told(" + what + ")", x -> x.told(what));
        }
        for (int p : new int[] {-1, 5, 8, LEAST, MOST}) {
            unknown(6, "person(" + p + ", 0)", x -> x.person(p, 0));
            unknown(6, "person(" + p + ", 7)", x -> x.person(p, 7));
            unknown(6, "person(" + p + ", -1)", x -> x.person(p, -1));
        }
        for (int what : new int[] {-1, 7, LEAST, MOST}) {
            outside(6, "person(0, " + what + ")", x -> x.person(0, what));
            outside(6, "person(2, " + what + "), a dead one", x -> x.person(2, what));
            outside(6, "person(4, " + what + ")", x -> x.person(4, what));
        }
        for (int d : new int[] {-1, 4, 10, LEAST, MOST}) {
            unknown(7, "dayTold(" + d + ", 0)", x -> x.dayTold(d, 0));
            unknown(7, "dayTold(" + d + ", 3)", x -> x.dayTold(d, 3));
            unknown(7, "dayTold(" + d + ", -1)", x -> x.dayTold(d, -1));
        }
        for (int what : new int[] {-1, 3, LEAST, MOST}) {
            outside(7, "dayTold(0, " + what + ")", x -> x.dayTold(0, what));
            outside(7, "dayTold(3, " + what + ")", x -> x.dayTold(3, what));
        }
    }

    private static void doneCalls() {
        in("in a rich state", RefusalTest::rich);
        for (int n : new int[] {0, 61, -1, LEAST, MOST}) {
            outside(8, "day(" + n + ")", x -> x.day(n));
            outside(11, "drift(" + n + ")", x -> x.drift(n));
        }
    }

    private static void triedCalls() {
        in("in a rich state", RefusalTest::rich);
        for (int number : new int[] {-1, LEAST, MOST}) {
            outside(13, "would(" + number + ", 0, 0)", x -> x.would(number, 0, 0));
            outside(13, "would(0, " + number + ", 0)", x -> x.would(0, number, 0));
            outside(13, "would(0, 0, " + number + ")", x -> x.would(0, 0, number));
            outside(16, "byMarks(" + number + ", 0)", x -> x.byMarks(number, 0));
            outside(16, "byMarks(0, " + number + ")", x -> x.byMarks(0, number));
            outside(23, "safe(" + number + ", 0)", x -> x.safe(number, 0));
            outside(23, "safe(0, " + number + ")", x -> x.safe(0, number));
        }
        outside(13, "would(3, 0, 0)", x -> x.would(3, 0, 0));
        outside(13, "would(0, 4, 0)", x -> x.would(0, 4, 0));
        outside(13, "would(0, 0, 10)", x -> x.would(0, 0, 10));
        outside(16, "byMarks(256, 0)", x -> x.byMarks(256, 0));
        outside(16, "byMarks(0, 256)", x -> x.byMarks(0, 256));
        outside(23, "safe(61, 0)", x -> x.safe(61, 0));
        outside(23, "safe(0, 101)", x -> x.safe(0, 101));
        for (int n : new int[] {-1, 61, LEAST, MOST}) {
            outside(14, "firstNobody(" + n + ")", x -> x.firstNobody(n));
        }
        for (int n : new int[] {0, 7, -1, LEAST, MOST}) {
            for (int i : new int[] {0, -1, n}) {
                outside(15, "send(" + n + ", " + i + ")", x -> x.send(n, i));
            }
        }
        for (int p : new int[] {-1, 5, 8, LEAST, MOST}) {
            unknown(17, "diedAt(" + p + ")", x -> x.diedAt(p));
            unknown(22, "apart(" + p + ", 0)", x -> x.apart(p, 0));
            unknown(22, "apart(0, " + p + ")", x -> x.apart(0, p));
            unknown(22, "apart(" + p + ", " + p + ")", x -> x.apart(p, p));
        }
        for (int p : new int[] {0, 1, 3, 4}) {
            not(17, "diedAt(" + p + "), who lives", x -> x.diedAt(p));
        }
        for (int p : new int[] {-2, 5, 8, LEAST, MOST}) {
            unknown(18, "classes(" + p + ")", x -> x.classes(p));
        }
        for (int p = 0; p < 5; p++) {
            int one = p;
            unknown(22, "apart(" + one + ", " + one + "), one twice", x -> x.apart(one, one));
        }
    }

    private static void watchedCalls() {
        in("in a rich state", RefusalTest::rich);
        for (int d : new int[] {-1, 4, 10, LEAST, MOST}) {
            unknown(24, "watch(" + d + ", true)", x -> x.watch(d, true));
            unknown(24, "watch(" + d + ", false)", x -> x.watch(d, false));
        }
        for (int p : new int[] {-1, 5, 8, LEAST, MOST}) {
            unknown(27, "write(" + p + ", 0)", x -> x.write(p, 0));
            unknown(27, "write(" + p + ", -1)", x -> x.write(p, -1));
            unknown(27, "write(" + p + ", 256)", x -> x.write(p, 256));
        }
        for (int marks : new int[] {-1, 256, LEAST, MOST}) {
            outside(27, "write(0, " + marks + ")", x -> x.write(0, marks));
            outside(27, "write(2, " + marks + "), of a dead one", x -> x.write(2, marks));
        }
    }

    private static void drawsAndImages() {
        in("in a rich state", RefusalTest::rich);
        outside(30, "seed(-1)", x -> x.seed(-1));
        outside(30, "seed(-2147483648)", x -> x.seed(LEAST));
        for (int i : new int[] {-1, 2, LEAST, MOST}) {
            unknown(31, "keep(" + i + ")", x -> x.keep(i));
            unknown(32, "goBack(" + i + ")", x -> x.goBack(i));
        }
        not(32, "goBack(1), which was not kept", x -> x.goBack(1));
    }

    // ---- not now

    /** OUTSIDE stands ahead of NOT, UNKNOWN ahead of all. */
    private static void withoutACourt() {
        for (boolean gone : new boolean[] {false, true}) {
            in(gone ? "behind an empty text" : "on a new object", gone ? RefusalTest::courtGone : RefusalTest::fresh);
            not(32, "goBack(0)", x -> x.goBack(0));
            not(32, "goBack(1)", x -> x.goBack(1));
            in(state + ", where an image is kept", gone ? () -> furnished(courtGone()) : () -> furnished(fresh()));
            not(32, "goBack(1)", x -> x.goBack(1));
            for (int n : new int[] {1, 60}) {
                not(8, "day(" + n + ")", x -> x.day(n));
                not(11, "drift(" + n + ")", x -> x.drift(n));
            }
            for (int n : new int[] {0, 61}) {
                outside(8, "day(" + n + ")", x -> x.day(n));
                outside(11, "drift(" + n + ")", x -> x.drift(n));
            }
            not(9, "attempt()", DoubleChain::attempt);
            not(10, "hire()", DoubleChain::hire);
            not(12, "undo()", DoubleChain::undo);
            not(21, "shownAll()", DoubleChain::shownAll);
            unknown(6, "person(0, 0)", x -> x.person(0, 0));
            unknown(7, "dayTold(0, 0)", x -> x.dayTold(0, 0));
            unknown(17, "diedAt(0)", x -> x.diedAt(0));
            unknown(18, "classes(0)", x -> x.classes(0));
            unknown(22, "apart(0, 1)", x -> x.apart(0, 1));
            unknown(24, "watch(0, true)", x -> x.watch(0, true));
            unknown(27, "write(0, 0)", x -> x.write(0, 0));
        }
    }

    private static DoubleChain fresh() {
        DoubleChain x = new DoubleChain();
        x.seed(99);
        return x;
    }

    private static DoubleChain courtGone() {
        DoubleChain x = rich();
        x.court();
        x.keep(0);
        x.day(2);
        x.write(0, 200);
        x.court();
        return x;
    }

    /** "no COURT (one without PERSONS is one)". */
    private static void withoutPeople() {
        in("in a court without people", RefusalTest::empty);
        not(10, "hire()", DoubleChain::hire);
        not(12, "undo()", DoubleChain::undo);
        unknown(6, "person(0, 9)", x -> x.person(0, 9));
        unknown(17, "diedAt(0)", x -> x.diedAt(0));
        unknown(18, "classes(0)", x -> x.classes(0));
        unknown(27, "write(0, 256)", x -> x.write(0, 256));
        T.promise(8);
        T.due("day(1) in a court without people", empty().day(1), 0);
        T.promise(9);
        T.due("attempt() in a court without people", empty().attempt(), -1);
        T.promise(11);
        T.due("drift(1) in a court without people", empty().drift(1), 0);
        T.promise(21);
        T.due("shownAll() in a court without people", empty().shownAll(), 0);
    }

    private static DoubleChain empty() {
        return furnished(Check.of("k5;d0 0 9;"));
    }

    /** NOT stands ahead of FULL. */
    private static void whereNobodyLives() {
        in("where the king alone was, and died", () -> dead(1));
        not(10, "hire()", DoubleChain::hire);
        in("where eight were, and died", () -> dead(8));
        not(10, "hire()", DoubleChain::hire);
    }

    private static DoubleChain dead(int many) {
        DoubleChain x = furnished(Check.of("k5;" + Check.people(many, "9 0 0 9") + "d0 0 9;"));
        for (int i = 0; i < many; i++) {
            x.attempt();
        }
        return x;
    }

    private static void whereNothingIsKept() {
        in("where all is undone", RefusalTest::undone);
        not(12, "undo()", DoubleChain::undo);
        not(32, "goBack(0)", x -> x.goBack(0));
        not(32, "goBack(1)", x -> x.goBack(1));
        unknown(32, "goBack(2)", x -> x.goBack(2));
        in("where all is undone, and an image is kept", () -> furnished(undone()));
        not(12, "undo()", DoubleChain::undo);
        not(32, "goBack(1)", x -> x.goBack(1));
        in("where what could be undone is gone", RefusalTest::keptOne);
        not(12, "undo()", DoubleChain::undo);
        not(32, "goBack(0)", x -> x.goBack(0));
    }

    private static DoubleChain undone() {
        DoubleChain x = Check.of("k5;p1 0 0 9;p2 0 0 9;d0 0 9;");
        x.day(3);
        x.undo();
        return x;
    }

    private static DoubleChain keptOne() {
        DoubleChain x = undone();
        x.day(2);
        x.keep(1);
        return x;
    }

    // ---- full

    /** OUTSIDE stands ahead of FULL. */
    private static void whereTheTextIsFull() {
        in("where the text is full", RefusalTest::textFull);
        for (int letter : new int[] {0, 32, 'k', 255}) {
            full(2, "feed(" + letter + ")", x -> x.feed(letter));
        }
        for (int letter : new int[] {-1, 256}) {
            outside(2, "feed(" + letter + ")", x -> x.feed(letter));
        }
    }

    private static DoubleChain textFull() {
        DoubleChain x = furnished(Check.of("k5;p1 0 0 9;d0 0 9;"));
        x.day(1);
        Check.feed(x, " ".repeat(223) + "d1 1 1;");
        return x;
    }

    private static void whereEightWere() {
        in("where eight are", () -> eight(0));
        full(10, "hire()", DoubleChain::hire);
        in("where eight were, and some died", () -> eight(7));
        full(10, "hire()", DoubleChain::hire);
    }

    private static DoubleChain eight(int died) {
        DoubleChain x = furnished(Check.of("k5;" + Check.people(7, "9 0 0 9") + "d0 0 9;"));
        x.hire();
        for (int i = 0; i < died; i++) {
            x.attempt();
        }
        return x;
    }

    /** OUTSIDE stands ahead of FULL. */
    private static void whereDaysAreAbove9000() {
        for (int days : new int[] {9001, 9060}) {
            in("behind " + days + " days", () -> behind(days));
            for (int n : new int[] {1, 60}) {
                full(8, "day(" + n + ")", x -> x.day(n));
                full(11, "drift(" + n + ")", x -> x.drift(n));
            }
            for (int n : new int[] {0, 61}) {
                outside(8, "day(" + n + ")", x -> x.day(n));
                outside(11, "drift(" + n + ")", x -> x.drift(n));
            }
        }
    }

    private static DoubleChain behind(int days) {
        DoubleChain x = Check.of("k5;p1 0 0 8;p2 0 0 9;d0 0 1;");
        for (int i = 0; i < 150; i++) {
            x.day(60);
        }
        furnished(x);
        x.day(days - 9000);
        return x;
    }

    /** UNKNOWN stands ahead of OUTSIDE, and this one ahead of FULL. */
    private static void whereAllIsWatchedAndWritten() {
        in("where all is watched and written", RefusalTest::allWatched);
        for (int d : new int[] {0, 1}) {
            full(24, "watch(" + d + ", true)", x -> x.watch(d, true));
            full(24, "watch(" + d + ", false)", x -> x.watch(d, false));
        }
        for (int d : new int[] {-1, 2}) {
            unknown(24, "watch(" + d + ", true)", x -> x.watch(d, true));
        }
        for (int marks : new int[] {0, 7, 255}) {
            full(27, "write(0, " + marks + ")", x -> x.write(0, marks));
            full(27, "write(2, " + marks + ")", x -> x.write(2, marks));
        }
        for (int marks : new int[] {-1, 256}) {
            outside(27, "write(0, " + marks + ")", x -> x.write(0, marks));
            unknown(27, "write(3, " + marks + ")", x -> x.write(3, marks));
            unknown(27, "write(-1, " + marks + ")", x -> x.write(-1, marks));
        }
        unknown(27, "write(3, 0)", x -> x.write(3, 0));
    }

    private static DoubleChain allWatched() {
        DoubleChain x = furnished(Check.of("k5;p7 0 0 8;p2 1 0 9;p2 0 0 8;d0 0 9;d1 0 1;"));
        for (int i = 1; i < 8; i++) {
            x.watch(i % 2, i % 2 == 1);
        }
        for (int i = 1; i < 15; i++) {
            x.write(0, 7);
        }
        x.day(1);
        return x;
    }

    // ---- not refused, but nothing changes all the same

    /** "THE TEXT (it is empty then, with a FAULT, too) .. -10 less the number of its FAULT (all else is as it was)". */
    private static void courtWithAFault() {
        T.promise(3);
        String[] texts = {"p", "k0;", "k6;k", "k6;p255 7 15 9;d2 3 9;x", "k6;p255 7 15 10;", "k6" + " ".repeat(90)};
        int[] answers = {-11, -12, -13, -11, -12, -11};
        for (int kept = 0; kept <= 1; kept++) {
            String due = View.behindTheText(bare(kept));
            for (int i = 0; i < texts.length; i++) {
                DoubleChain x = bare(kept);
                Check.feed(x, texts[i]);
                T.due("court() of " + texts[i], x.court(), answers[i]);
                T.due("told(3) behind " + texts[i], x.told(3), 0);
                T.same("what court() of " + texts[i] + " leaves", View.behindTheText(x), due);
            }
        }
    }

    /** Much as the rich state, without a text begun. */
    private static DoubleChain bare(int kept) {
        DoubleChain x = Check.of("k100;p13 6 0 3;p12 4 2 5;p29 2 1 9;d1 0 2;d0 1 4;d2 3 6;");
        x.seed(8);
        x.attempt();
        x.keep(kept);
        x.day(2);
        x.hire();
        x.watch(2, true);
        x.write(3, 29);
        return x;
    }
}
