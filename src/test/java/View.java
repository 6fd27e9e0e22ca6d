/**
 * All that the calls show of an object, as one text, so that two objects can be compared. To see what is kept behind,
 * it undoes, goes back and reads the text that was fed: an object that was viewed is of no more use.
 */
final class View {
    private final StringBuilder seen = new StringBuilder();
    private final DoubleChain x;

    private View(DoubleChain x) {
        this.x = x;
    }

    /** With what fault() tells and the letters fed. */
    static String whole(DoubleChain x) {
        View view = new View(x);
        view.part("fault", x.fault(), x.told(3));
        view.all();
        view.lettersFed();
        return view.seen.toString();
    }

    /** Without what a court() with a fault may change: the text and the fault's place. */
    static String behindTheText(DoubleChain x) {
        View view = new View(x);
        view.all();
        return view.seen.toString();
    }

    private void all() {
        court();
        people();
        now();
        past();
        image(0);
        image(1);
    }

    private void court() {
        part("told", x.told(0), x.told(1), x.told(2));
        for (int d = 0; d < x.told(2); d++) {
            part("day told", x.dayTold(d, 0), x.dayTold(d, 1), x.dayTold(d, 2));
        }
    }

    private void people() {
        for (int p = 0; p < x.told(1); p++) {
            part("person", x.person(p, 1), x.person(p, 2), x.person(p, 3), x.person(p, 4), x.person(p, 5), x.person(p, 6));
        }
    }

    private void now() {
        part("now", x.told(1), x.told(4), x.told(5), x.told(6), x.told(7), x.told(8), x.told(11));
        for (int p = 0; p < x.told(1); p++) {
            part("marks", x.person(p, 0));
        }
        int seed = x.seed(0);
        x.seed(seed);
        part("watched", x.told(9), x.fits(), x.lookOn(), x.told(10), x.judge(), seed);
    }

    private void past() {
        while (x.told(11) > 0) {
            part("undo", x.undo(), x.told(1), x.told(4), x.told(5), x.told(6), x.told(8));
        }
    }

    private void image(int i) {
        part("image", x.goBack(i));
        now();
    }

    private void lettersFed() {
        int letters = x.told(3);
        part("text", x.court(), x.fault(), letters, x.told(0), x.told(1), x.told(2));
    }

    private void part(String name, int... numbers) {
        seen.append(name);
        for (int number : numbers) {
            seen.append(' ').append(number);
        }
        seen.append('\n');
    }
}
