import java.util.Random;

/** Runs of calls and texts by chance, each the same every time: the program and Model answer alike. */
public final class ModelTest {
    private static final int RUNS = 1500;
    private static final int TEXTS = 20000;
    // What an object answers behind its 512th call is free; a turn makes 20 calls at most.
    private static final int CALLS = 512 - 20;
    private static final int SIXTIES = 149;
    private static final String[] PIECES = {"k", "p", "d", ";", " ", "  ", "0", "1", "2", "3", "9", "10", "15", "16", "255", "256",
        "999", "1000", "0001", "x", "k5;", "p1 2 3 4;", "d2 3 9;", "p255 7 15 9", "d0 0 0", "p1 2 3 4;p1 2 3 4;p1 2 3 4;"};
    private static final int[] EDGES = {-1, Integer.MIN_VALUE, Integer.MAX_VALUE, -2, 1000, 256, 8, 10, 61, 101};

    private final Check check = new Check();
    private final Random random = new Random(20261119);
    private DoubleChain x;
    private Model m;
    private int calls;

    public static void main(String[] args) {
        ModelTest test = new ModelTest();
        for (int run = 0; run < RUNS; run++) {
            test.run(run);
        }
        for (int i = 0; i < TEXTS; i++) {
            test.text();
        }
        test.check.end();
    }

    private void run(int number) {
        x = new DoubleChain();
        m = new Model();
        calls = 0;
        check.promise(0);
        if (number % 10 != 0) {
            feedCourt();
        }
        if (number % 15 == 1) {
            passManyDays();
        }
        while (calls < CALLS) {
            call(number % 3 == 0);
        }
    }

    /** To where DAYS come near 9000, and above. */
    private void passManyDays() {
        for (int i = 0; i < SIXTIES; i++) {
            if (random.nextInt(50) == 0) {
                due("drift(60)", x.drift(60), m.drift(60));
            } else {
                due("day(60)", x.day(60), m.day(60));
            }
        }
    }

    private void text() {
        x = new DoubleChain();
        m = new Model();
        calls = 0;
        StringBuilder s = new StringBuilder(random.nextInt(4) == 0 ? "" : "k7;");
        int pieces = random.nextInt(random.nextBoolean() ? 6 : 40);
        for (int i = 0; i < pieces; i++) {
            s.append(random.nextInt(3) == 0 ? PIECES[random.nextInt(PIECES.length)] : PIECES[20 + random.nextInt(6)]);
        }
        for (int i = 0; i < s.length() && i < 250; i++) {
            due("feed", x.feed(s.charAt(i)), m.feed(s.charAt(i)));
        }
        due("court() of " + s, x.court(), m.court());
        due("fault() of " + s, x.fault(), m.fault());
        callCourt(7);
    }

    private void due(String call, int got, int want) {
        calls++;
        check.due(call + " (call " + calls + ")", got, want);
    }

    private void feedCourt() {
        String text = court();
        for (int i = 0; i < text.length(); i++) {
            due("feed", x.feed(text.charAt(i)), m.feed(text.charAt(i)));
        }
        due("court() of " + text, x.court(), m.court());
        due("fault() of " + text, x.fault(), m.fault());
    }

    private String court() {
        StringBuilder s = new StringBuilder("k" + (1 + random.nextInt(999)) + ";");
        int clauses = random.nextInt(18);
        boolean few = random.nextBoolean();
        for (int i = 0; i < clauses; i++) {
            if (random.nextInt(9) < 5) {
                int marks = few ? random.nextInt(3) : random.nextInt(256);
                s.append('p').append(marks).append(' ').append(stays(3)).append(' ').append(stays(4)).append(' ').append(random.nextInt(10));
            } else {
                s.append('d').append(random.nextInt(3)).append(' ').append(random.nextInt(4)).append(' ').append(random.nextInt(10));
            }
            s.append(random.nextInt(6) == 0 ? " ; " : ";");
        }
        if (random.nextInt(5) == 0) {
            int at = random.nextInt(s.length());
            s.setCharAt(at, "kpd; 0129xn".charAt(random.nextInt(11)));
        }
        return s.length() > 240 ? s.substring(0, 240) : s.toString();
    }

    /** Mostly few bits, so that many go out. */
    private int stays(int bits) {
        return random.nextInt(1 << bits) & random.nextInt(1 << bits);
    }

    private int number(int most) {
        if (random.nextInt(25) == 0) {
            return EDGES[random.nextInt(EDGES.length)];
        }
        return random.nextInt(most + 1);
    }

    private int days() {
        return random.nextInt(4) == 0 ? number(60) : number(4);
    }

    private void call(boolean calm) {
        int kind = random.nextInt(calm ? 40 : 44);
        if (kind < 8) {
            callCourt(kind);
        } else if (kind < 20) {
            callTried(kind);
        } else if (kind < 34) {
            callWatched(kind);
        } else {
            callDone(kind);
        }
    }

    private void callCourt(int kind) {
        int a = number(11);
        int p = number(7);
        switch (kind) {
            case 0: {
                int letter = random.nextInt(3) == 0 ? number(255) : "k5; pd".charAt(random.nextInt(6));
                due("feed(" + letter + ")", x.feed(letter), m.feed(letter));
                break;
            }
            case 1:
                if (random.nextInt(40) == 0) {
                    due("court()", x.court(), m.court());
                }
                due("fault()", x.fault(), m.fault());
                break;
            case 2:
            case 3:
                due("told(" + a + ")", x.told(a), m.told(a));
                break;
            case 4:
            case 5:
                due("person(" + p + ", " + a % 8 + ")", x.person(p, a % 8), m.person(p, a % 8));
                break;
            case 6:
                due("dayTold(" + p + ", " + a % 4 + ")", x.dayTold(p, a % 4), m.dayTold(p, a % 4));
                break;
            default:
                for (int what = 0; what < 12; what++) {
                    due("told(" + what + ")", x.told(what), m.told(what));
                }
                for (int q = 0; q < 8; q++) {
                    due("person(" + q + ", 0)", x.person(q, 0), m.person(q, 0));
                }
        }
    }

    private void callTried(int kind) {
        int a = number(9);
        int b = number(3);
        int c = number(2);
        int n = days();
        int p = number(7);
        int q = number(7);
        boolean all = random.nextBoolean();
        switch (kind) {
            case 8: due("would(" + c + ", " + b + ", " + a + ")", x.would(c, b, a), m.would(c, b, a)); break;
            case 9: due("firstNobody(" + n + ")", x.firstNobody(n), m.firstNobody(n)); break;
            case 10:
            case 11: due("send(" + q + ", " + b + ")", x.send(q, b), m.send(q, b)); break;
            case 12: {
                int some = number(255) & number(255) & number(255);
                int none = number(255) & number(255) & number(255);
                due("byMarks(" + some + ", " + none + ")", x.byMarks(some, none), m.byMarks(some, none));
                break;
            }
            case 13: due("diedAt(" + p + ")", x.diedAt(p), m.diedAt(p)); break;
            case 14: due("classes(" + (p - 1) + ")", x.classes(p - 1), m.classes(p - 1)); break;
            case 15: due("tell(" + all + ")", x.tell(all), m.tell(all)); break;
            case 16: due("reign()", x.reign(), m.reign()); break;
            case 17: due("shownAll()", x.shownAll(), m.shownAll()); break;
            case 18: due("apart(" + p + ", " + q + ")", x.apart(p, q), m.apart(p, q)); break;
            default: {
                int odds = number(random.nextBoolean() ? 100 : 9);
                due("safe(" + n + ", " + odds + ")", x.safe(n, odds), m.safe(n, odds));
            }
        }
    }

    private void callWatched(int kind) {
        int d = number(9);
        int p = number(7);
        int i = number(1);
        boolean out = random.nextBoolean();
        switch (kind) {
            case 20:
            case 21: due("watch(" + d + ", " + out + ")", x.watch(d, out), m.watch(d, out)); break;
            case 22:
            case 23: due("fits()", x.fits(), m.fits()); break;
            case 24: due("lookOn()", x.lookOn(), m.lookOn()); break;
            case 25: {
                int marks = number(255);
                due("write(" + p + ", " + marks + ")", x.write(p, marks), m.write(p, marks));
                break;
            }
            case 26: {
                int marks = m.person(p, 0);
                due("write(" + p + ", " + marks + ")", x.write(p, marks), m.write(p, marks));
                break;
            }
            case 27: {
                if (random.nextInt(2) == 0) {
                    due("tear()", x.tear(), m.tear());
                }
                break;
            }
            case 28:
            case 29: due("judge()", x.judge(), m.judge()); break;
            case 30: {
                int v = random.nextInt();
                due("seed(" + v + ")", x.seed(v), m.seed(v));
                break;
            }
            case 31: due("keep(" + i + ")", x.keep(i), m.keep(i)); break;
            case 32: due("goBack(" + i + ")", x.goBack(i), m.goBack(i)); break;
            default: due("seed(-1)", x.seed(-1), m.seed(-1));
        }
    }

    private void callDone(int kind) {
        int n = days();
        switch (kind) {
            case 34:
            case 35: due("day(" + n + ")", x.day(n), m.day(n)); break;
            case 36: due("hire()", x.hire(), m.hire()); break;
            case 37:
            case 40:
            case 41: due("undo()", x.undo(), m.undo()); break;
            case 38: {
                if (random.nextInt(3) == 0) {
                    due("attempt()", x.attempt(), m.attempt());
                }
                break;
            }
            case 39: due("drift(" + n + ")", x.drift(n), m.drift(n)); break;
            case 42: due("attempt()", x.attempt(), m.attempt()); break;
            default: due("day(60)", x.day(60), m.day(60));
        }
    }
}
