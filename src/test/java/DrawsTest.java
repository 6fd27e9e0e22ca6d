/** Promises 30 to 32: the seed and the images. */
public final class DrawsTest {
    private static final Check T = new Check();

    public static void main(String[] args) {
        seed();
        keep();
        goBack();
        imagesHoldAll();
        T.end();
    }

    private static void seed() {
        T.promise(30);
        DoubleChain x = new DoubleChain();
        T.due("seed(-1)", x.seed(-1), Check.OUTSIDE);
        T.due("seed(-2147483648)", x.seed(Integer.MIN_VALUE), Check.OUTSIDE);
        T.due("seed(2147483647)", x.seed(Integer.MAX_VALUE), 0);
        T.due("seed(1)", x.seed(1), Integer.MAX_VALUE);
        Check.feed(x, "k1;");
        x.court();
        x.drift(1);
        T.due("seed(2147483647), one drawn of 1", x.seed(Integer.MAX_VALUE), 1103527590);
        x.drift(1);
        T.due("seed(3), one drawn of the greatest", x.seed(3), 1043980748);
        x.day(5);
        x.attempt();
        T.due("seed(3): no other draw", x.seed(3), 3);
        x.drift(3);
        T.due("seed(0), three drawn of 3", x.seed(0), 679304702);
    }

    private static void keep() {
        T.promise(31);
        DoubleChain x = new DoubleChain();
        T.due("keep(-1)", x.keep(-1), Check.UNKNOWN);
        T.due("keep(2)", x.keep(2), Check.UNKNOWN);
        T.due("keep(0), no court", x.keep(0), 1);
        T.due("goBack(0), no court", x.goBack(0), 1);
        x = Check.of("k1;p0 0 0 0;");
        x.day(1);
        x.day(1);
        T.due("keep(2)", x.keep(2), Check.UNKNOWN);
        T.due("told(11): it can be undone", x.told(11), 2);
        T.due("keep(1)", x.keep(1), 1);
        T.due("told(11)", x.told(11), 0);
        T.due("undo()", x.undo(), Check.NOT);
        T.due("told(4)", x.told(4), 2);
        T.due("goBack(0): not kept", x.goBack(0), Check.NOT);
        x.day(1);
        T.due("keep(1), anew", x.keep(1), 1);
        x.day(1);
        T.due("goBack(1)", x.goBack(1), 1);
        T.due("told(4)", x.told(4), 3);
    }

    private static void goBack() {
        T.promise(32);
        DoubleChain x = new DoubleChain();
        T.due("goBack(0), nothing was kept", x.goBack(0), Check.NOT);
        T.due("goBack(1), nothing was kept", x.goBack(1), Check.NOT);
        x = Check.of("k1;p0 0 0 0;");
        T.due("goBack(-1)", x.goBack(-1), Check.UNKNOWN);
        T.due("goBack(2)", x.goBack(2), Check.UNKNOWN);
        x.day(1);
        T.due("goBack(0)", x.goBack(0), Check.NOT);
        T.due("goBack(1)", x.goBack(1), Check.NOT);
        T.due("told(11): it can be undone", x.told(11), 1);
        x.keep(0);
        x.day(1);
        x.keep(1);
        x.day(1);
        T.due("goBack(0)", x.goBack(0), 1);
        T.due("told(4)", x.told(4), 1);
        T.due("told(11)", x.told(11), 0);
        T.due("undo()", x.undo(), Check.NOT);
        T.due("goBack(1)", x.goBack(1), 1);
        T.due("told(4)", x.told(4), 2);
        x.day(1);
        T.due("goBack(1) again", x.goBack(1), 1);
        T.due("told(4)", x.told(4), 2);
    }

    private static void imagesHoldAll() {
        T.promise(32);
        DoubleChain x = Check.of("k9;p1 0 0 9;p2 0 0 9;d0 0 9;");
        x.day(1);
        x.seed(44);
        x.keep(0);
        x.watch(0, true);
        x.write(1, 3);
        x.hire();
        x.attempt();
        x.drift(30);
        x.keep(1);
        int seed = x.seed(7);
        int marks = x.person(2, 0);
        int living = x.told(5);
        int spent = x.told(8);
        T.due("goBack(0)", x.goBack(0), 1);
        int[] want = {9, 2, 1, 0, 1, 3, 1, 0, 13, 1, 1, 0};
        for (int what = 0; what < want.length; what++) {
            T.due("told(" + what + ")", x.told(what), want[what]);
        }
        T.due("person(1, 0)", x.person(1, 0), 3);
        T.due("person(2, 0)", x.person(2, 0), Check.UNKNOWN);
        T.due("judge()", x.judge(), -1);
        T.due("seed(7)", x.seed(7), 44);
        T.due("goBack(1)", x.goBack(1), 1);
        T.due("told(1)", x.told(1), 3);
        T.due("told(4)", x.told(4), 31);
        T.due("told(5)", x.told(5), living);
        T.due("told(8)", x.told(8), spent);
        T.due("person(2, 0)", x.person(2, 0), marks);
        T.due("person(2, 3)", x.person(2, 3), 9);
        T.due("seed(7)", x.seed(7), seed);
    }
}
