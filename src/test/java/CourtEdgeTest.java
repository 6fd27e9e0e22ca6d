/** The edges that section 1 and promises 1 to 7 name, sentence by sentence: the last that is allowed, the first that is not. */
public final class CourtEdgeTest {
    private static final Check T = new Check();
    private static final String EIGHT = "p1 2 3 4;".repeat(8);
    private static final String TEN = "d2 3 9;".repeat(10);

    public static void main(String[] args) {
        callsAtMost();
        constants();
        lettersAreNumbers();
        lettersAtMost();
        pay();
        kingFirstAndOnce();
        peopleAtMost();
        marks();
        staysInByWeather();
        staysInAtHours();
        fear();
        daysAtMost();
        weatherHourDanger();
        figures();
        wordsAreOneLetter();
        blanks();
        numbersSideBySide();
        faultAtTheFirstLetter();
        faultAtTheEnd();
        leastFaultOfALetter();
        eachLetterAtTheStart();
        eachLetterBehindTheKing();
        eachLetterWithinANumber();
        eachLetterBehindANumber();
        eachLetterBehindAClause();
        noCourt();
        allIsNew();
        textIsEmptyBehindCourt();
        faultOfTheLatest();
        told();
        person();
        dayTold();
        T.end();
    }

    private static DoubleChain dueCourt(String text, int answer, int place) {
        DoubleChain x = new DoubleChain();
        Check.feed(x, text);
        T.due("court() of \"" + text + "\"", x.court(), answer);
        T.due("fault() of \"" + text + "\"", x.fault(), place);
        return x;
    }

    /** "An object is used for at most 512 calls after it has been made". */
    private static void callsAtMost() {
        T.promise(1);
        DoubleChain x = Check.of("k5;p3 0 0 9;d0 0 1;");
        for (int round = 1; round <= 70; round++) {
            x.day(1);
            x.hire();
            x.drift(1);
            x.undo();
            x.keep(0);
            x.watch(0, true);
            x.write(0, 3);
        }
        T.due("told(1), the 511th call", x.told(1), 8);
        T.due("told(4), the 512th call", x.told(4), 70);
    }

    /** "NONE is -1", "-1000000001 and on". */
    private static void constants() {
        T.promise(1);
        int[] got = {DoubleChain.NONE, DoubleChain.UNKNOWN, DoubleChain.OUTSIDE, DoubleChain.NOT, DoubleChain.FULL};
        int[] want = {-1, -1000000001, -1000000002, -1000000003, -1000000004};
        for (int i = 0; i < got.length; i++) {
            T.due("constant " + i, got[i], want[i]);
        }
    }

    /** "One letter (a number 0 .. 255) comes behind THE TEXT: how many it has." */
    private static void lettersAreNumbers() {
        T.promise(2);
        DoubleChain x = new DoubleChain();
        T.due("feed(-1)", x.feed(-1), Check.OUTSIDE);
        T.due("feed(256)", x.feed(256), Check.OUTSIDE);
        T.due("told(3)", x.told(3), 0);
        T.due("feed(0)", x.feed(0), 1);
        T.due("feed(255)", x.feed(255), 2);
        T.due("feed(-1)", x.feed(-1), Check.OUTSIDE);
        T.due("feed(256)", x.feed(256), Check.OUTSIDE);
        T.due("told(3)", x.told(3), 2);
    }

    /** "240 letters at most". */
    private static void lettersAtMost() {
        T.promise(2);
        String clause = "k5;" + TEN + EIGHT;
        DoubleChain x = new DoubleChain();
        Check.feed(x, " ".repeat(239 - clause.length()));
        Check.feed(x, clause);
        T.due("told(3)", x.told(3), 239);
        T.due("feed(32), the 240th", x.feed(' '), 240);
        T.due("feed('x'), the 241st", x.feed('x'), Check.FULL);
        T.due("feed(256), the 241st", x.feed(256), Check.OUTSIDE);
        T.due("feed(-1), the 241st", x.feed(-1), Check.OUTSIDE);
        T.due("told(3)", x.told(3), 240);
        T.promise(3);
        T.due("court()", x.court(), 8);
        T.due("told(2)", x.told(2), 10);
        T.due("told(3)", x.told(3), 0);
        T.due("feed(32), the first again", x.feed(' '), 1);
        dueCourt("k5;" + " ".repeat(228) + "p1 2 3 4;", 1, -1);
        dueCourt("k5;" + " ".repeat(229) + "p1 2 3 4", -11, 240);
        dueCourt("k5;" + " ".repeat(236) + "x", -11, 239);
        dueCourt(" ".repeat(240), 0, -1);
    }

    /** "PAY P of the KING a day, 1 .. 999". */
    private static void pay() {
        T.promise(3);
        for (int p = 1; p <= 999; p++) {
            DoubleChain x = dueCourt("k" + p + ";", 0, -1);
            T.due("told(0)", x.told(0), p);
        }
        dueCourt("k0;", -12, 1);
        dueCourt("k00;", -12, 1);
        dueCourt("k000;", -12, 1);
        dueCourt("k1000;", -12, 1);
        dueCourt("k9999;", -12, 1);
    }

    /** "first, once"; "another word first than 'k'"; "'k' again .. (at it)". */
    private static void kingFirstAndOnce() {
        T.promise(4);
        dueCourt("p1 2 3 4;k5;", -11, 0);
        dueCourt("d2 3 9;k5;", -11, 0);
        dueCourt("  p1 2 3 4;", -11, 2);
        dueCourt("k5;k5;", -13, 3);
        dueCourt("k5;  k", -13, 5);
        dueCourt("k5;p1 2 3 4;k5;", -13, 12);
        dueCourt("k5;d2 3 9;k0;", -13, 10);
        dueCourt("k5;" + EIGHT + TEN + "k", -13, 145);
    }

    /** "8 PERSONS at most, the first is the KING"; "a ninth 'p' .. (at it)". */
    private static void peopleAtMost() {
        T.promise(3);
        for (int many = 0; many <= 8; many++) {
            DoubleChain x = dueCourt("k5;" + "p1 2 3 4;".repeat(many), many, -1);
            T.due("told(1) of " + many, x.told(1), many);
            T.due("told(5) of " + many, x.told(5), (1 << many) - 1);
            T.due("person(" + many + ", 0)", x.person(many, 0), Check.UNKNOWN);
            T.due("person(" + (many - 1) + ", 0)", x.person(many - 1, 0), many == 0 ? Check.UNKNOWN : 1);
        }
        T.promise(4);
        dueCourt("k5;" + EIGHT + "p1 2 3 4;", -13, 75);
        dueCourt("k5;" + EIGHT + "  p", -13, 77);
        dueCourt("k5;" + EIGHT + "px", -13, 75);
        dueCourt("k5;" + EIGHT + "p1000;", -13, 75);
        dueCourt("k5;" + EIGHT + TEN + "p", -13, 145);
        dueCourt("k5;" + EIGHT + TEN, 8, -1);
        dueCourt("k5;" + "p1 2 3 4;".repeat(7) + "p1 2 3 10;", -12, 73);
    }

    /** "MARKS M 0 .. 255, a SET". */
    private static void marks() {
        T.promise(3);
        for (int m = 0; m <= 255; m++) {
            DoubleChain x = dueCourt("k5;p" + m + " 2 3 4;", 1, -1);
            T.due("person(0, 0)", x.person(0, 0), m);
            T.due("byMarks(" + m + ", " + (255 - m) + ")", x.byMarks(m, 255 - m), 1);
        }
        dueCourt("k5;p256 2 3 4;", -12, 4);
        dueCourt("k5;p999 2 3 4;", -12, 4);
    }

    /** "stays in by WEATHERS W 0 .. 7, a SET of 0 sun, 1 rain, 2 snow". */
    private static void staysInByWeather() {
        T.promise(3);
        for (int w = 0; w <= 7; w++) {
            DoubleChain x = dueCourt("k5;p1 " + w + " 0 9;", 1, -1);
            T.due("person(0, 1)", x.person(0, 1), w);
            for (int weather = 0; weather <= 2; weather++) {
                int seen = (w >> weather) % 2 == 1 ? -1 : 0;
                T.due("would(" + weather + ", 0, 0) of one in by " + w, x.would(weather, 0, 0), seen);
                T.due("would(" + weather + ", 3, 9) of one in by " + w, x.would(weather, 3, 9), seen);
            }
        }
        dueCourt("k5;p1 8 3 4;", -12, 6);
        dueCourt("k5;p1 999 3 4;", -12, 6);
    }

    /** "at HOURS H 0 .. 15, a SET of 0 to 3". */
    private static void staysInAtHours() {
        T.promise(3);
        for (int h = 0; h <= 15; h++) {
            DoubleChain x = dueCourt("k5;p1 0 " + h + " 9;", 1, -1);
            T.due("person(0, 2)", x.person(0, 2), h);
            for (int hour = 0; hour <= 3; hour++) {
                int seen = (h >> hour) % 2 == 1 ? -1 : 0;
                T.due("would(0, " + hour + ", 0) of one in at " + h, x.would(0, hour, 0), seen);
                T.due("would(2, " + hour + ", 9) of one in at " + h, x.would(2, hour, 9), seen);
            }
        }
        dueCourt("k5;p1 2 16 4;", -12, 8);
        dueCourt("k5;p1 2 999 4;", -12, 8);
    }

    /** "FEAR F 0 .. 9: stays in, if there is more DANGER". */
    private static void fear() {
        T.promise(3);
        for (int f = 0; f <= 9; f++) {
            DoubleChain x = dueCourt("k5;p1 0 0 " + f + ";", 1, -1);
            T.due("person(0, 3)", x.person(0, 3), f);
            for (int danger = 0; danger <= 9; danger++) {
                T.due("would(0, 0, " + danger + ") of fear " + f, x.would(0, 0, danger), danger > f ? -1 : 0);
            }
        }
        dueCourt("k5;p1 2 3 10;", -12, 10);
        dueCourt("k5;p1 2 3 999;", -12, 10);
    }

    /** "10 DAYS at most, one behind the other"; "an eleventh 'd' (at it)". */
    private static void daysAtMost() {
        T.promise(3);
        for (int many = 0; many <= 10; many++) {
            DoubleChain x = dueCourt("k5;" + "d2 3 9;".repeat(many), 0, -1);
            T.due("told(2) of " + many, x.told(2), many);
            T.due("dayTold(" + many + ", 0)", x.dayTold(many, 0), Check.UNKNOWN);
            T.due("dayTold(" + (many - 1) + ", 0)", x.dayTold(many - 1, 0), many == 0 ? Check.UNKNOWN : 2);
        }
        T.promise(4);
        dueCourt("k5;" + TEN + "d2 3 9;", -13, 73);
        dueCourt("k5;" + TEN + "  d", -13, 75);
        dueCourt("k5;" + TEN + "d9", -13, 73);
        dueCourt("k5;" + TEN + EIGHT + "d", -13, 145);
        dueCourt("k5;" + "d2 3 9;".repeat(9) + "d2 3 10;", -12, 71);
    }

    /** "WEATHER W 0 .. 2, HOUR H 0 .. 3, DANGER G 0 .. 9". */
    private static void weatherHourDanger() {
        T.promise(3);
        for (int weather = 0; weather <= 2; weather++) {
            for (int hour = 0; hour <= 3; hour++) {
                for (int danger = 0; danger <= 9; danger++) {
                    DoubleChain x = dueCourt("k5;d" + weather + " " + hour + " " + danger + ";", 0, -1);
                    T.due("dayTold(0, 0)", x.dayTold(0, 0), weather);
                    T.due("dayTold(0, 1)", x.dayTold(0, 1), hour);
                    T.due("dayTold(0, 2)", x.dayTold(0, 2), danger);
                }
            }
        }
        dueCourt("k5;d3 0 0;", -12, 4);
        dueCourt("k5;d999 0 0;", -12, 4);
        dueCourt("k5;d2 4 0;", -12, 6);
        dueCourt("k5;d2 999 0;", -12, 6);
        dueCourt("k5;d2 3 10;", -12, 8);
        dueCourt("k5;d2 3 999;", -12, 8);
    }

    /** "NUMBERS have one to three figures"; "a NUMBER of four figures or more .. (at its first)". */
    private static void figures() {
        T.promise(4);
        dueCourt("k;", -11, 1);
        T.due("told(0) of k1", dueCourt("k1;", 0, -1).told(0), 1);
        T.due("told(0) of k01", dueCourt("k01;", 0, -1).told(0), 1);
        T.due("told(0) of k001", dueCourt("k001;", 0, -1).told(0), 1);
        dueCourt("k0001;", -12, 1);
        dueCourt("k" + "9".repeat(239), -12, 1);
        dueCourt("k4294967297;", -12, 1);
        dueCourt("k18446744073709551617;", -12, 1);
        DoubleChain x = dueCourt("k5;p007 000 010 009;d002 003 009;", 1, -1);
        int[] want = {7, 0, 10, 9};
        for (int what = 0; what < 4; what++) {
            T.due("person(0, " + what + ")", x.person(0, what), want[what]);
        }
        T.due("dayTold(0, 2)", x.dayTold(0, 2), 9);
        dueCourt("k5;p0007 0 0 0;", -12, 4);
        dueCourt("k5;p7 0000 0 0;", -12, 6);
        dueCourt("k5;p7 0 0000 0;", -12, 8);
        dueCourt("k5;p7 0 0 0000;", -12, 10);
        dueCourt("k5;d0000 0 0;", -12, 4);
        dueCourt("k5;d0 0000 0;", -12, 6);
        dueCourt("k5;d0 0 0000;", -12, 8);
    }

    /** "a word is one letter". */
    private static void wordsAreOneLetter() {
        T.promise(4);
        dueCourt("kk5;", -11, 1);
        dueCourt("k5;pp1 2 3 4;", -11, 4);
        dueCourt("k5;dd2 3 9;", -11, 4);
        dueCourt("k5;pd2 3 9;", -11, 4);
        dueCourt("K5;", -11, 0);
        dueCourt("k5;P1 2 3 4;", -11, 3);
        dueCourt("k5;D2 3 9;", -11, 3);
    }

    /** "blanks (32) may stand anywhere but within NUMBERS". */
    private static void blanks() {
        T.promise(3);
        String wide = "  k  50  ;  p  1  2  3  4  ;  d  2  3  9  ;  ";
        DoubleChain x = dueCourt(wide, 1, -1);
        T.due("told(0)", x.told(0), 50);
        T.due("person(0, 3)", x.person(0, 3), 4);
        T.due("dayTold(0, 2)", x.dayTold(0, 2), 9);
        dueCourt("k50;p1 2 3 4;d2 3 9;", 1, -1);
        T.promise(4);
        dueCourt("k5 0;", -11, 3);
        dueCourt("k5;p1 2 3 0 4;", -11, 12);
        dueCourt("k5;d2 3 0 9;", -11, 10);
        for (int letter : new int[] {0, 9, 10, 13, 31, 33, 160, 255}) {
            String other = String.valueOf((char) letter);
            dueCourt(other, -11, 0);
            dueCourt("k" + other + "5;", -11, 1);
            dueCourt("k5" + other + ";", -11, 2);
            dueCourt("k5;" + other, -11, 3);
            dueCourt("k5;p1" + other + "2 3 4;", -11, 5);
        }
    }

    /** "two NUMBERS side by side need one". */
    private static void numbersSideBySide() {
        T.promise(4);
        dueCourt("k5;p1 2 3 4;", 1, -1);
        dueCourt("k5;p12 3 4;", -11, 10);
        dueCourt("k5;p1 23 4;", -12, 6);
        dueCourt("k5;p1 2 34;", -12, 8);
        dueCourt("k5;p1234;", -12, 4);
        dueCourt("k5;d239;", -12, 4);
        dueCourt("k5;d2 39;", -12, 6);
        dueCourt("k5;d2 3;", -11, 7);
    }

    /** "FAULTS, at the first letter that has one". */
    private static void faultAtTheFirstLetter() {
        T.promise(4);
        dueCourt("k1000x", -12, 1);
        dueCourt("k0", -12, 1);
        dueCourt("k5x;k", -11, 2);
        dueCourt("k5;p256 8 16 10;", -12, 4);
        dueCourt("k5;p255 8 16 10;", -12, 8);
        dueCourt("k5;p255 7 16 10;", -12, 10);
        dueCourt("k5;p255 7 15 10;", -12, 13);
        dueCourt("k5;p1 x 16 10;k", -11, 6);
        dueCourt("k5;k5;x", -13, 3);
        dueCourt("k5;x;k5;", -11, 3);
        dueCourt("k5;d3 x", -12, 4);
    }

    /** "the end at the text's length". */
    private static void faultAtTheEnd() {
        T.promise(4);
        String whole = "k5;p1 2 3 4;d2 3 9;";
        for (int length = 0; length <= whole.length(); length++) {
            boolean good = length == 0 || whole.charAt(length - 1) == ';';
            int people = length >= 12 ? 1 : 0;
            String text = whole.substring(0, length);
            dueCourt(text, good ? people : -11, good ? -1 : length);
            dueCourt(text + "   ", good ? people : -11, good ? -1 : length + 3);
        }
    }

    /** "of these the least": 1 ahead of 2 and of 3 at the same letter. */
    private static void leastFaultOfALetter() {
        T.promise(4);
        dueCourt("1000", -11, 0);
        dueCourt("k5 1000;", -11, 3);
        dueCourt("k5;1000", -11, 3);
        dueCourt("k5;p1 2 3 4 1000;", -11, 12);
        dueCourt("k5;d2 3 9 1000;", -11, 10);
        dueCourt("k5k;", -11, 2);
        dueCourt("kk", -11, 1);
        dueCourt("k5;pk", -11, 4);
        dueCourt("k5;p1 2k", -11, 7);
        dueCourt("k5;" + "p1 2 3 4;".repeat(7) + "p1 2 3 4p", -11, 74);
        dueCourt("k5;" + EIGHT + "d2p", -11, 77);
        dueCourt("k5;" + "d2 3 9;".repeat(9) + "d2 3 9d", -11, 72);
        dueCourt("k5;" + TEN + "p1d", -11, 75);
        dueCourt("k5;" + EIGHT + "x", -11, 75);
        dueCourt("k5;" + EIGHT + ";", -11, 75);
    }

    private static void eachLetterAtTheStart() {
        T.promise(4);
        for (int letter = 0; letter <= 255; letter++) {
            boolean blank = letter == ' ';
            boolean king = letter == 'k';
            dueCourt(text("", letter, ""), blank ? 0 : -11, blank ? -1 : king ? 1 : 0);
        }
    }

    private static void eachLetterBehindTheKing() {
        T.promise(4);
        for (int letter = 0; letter <= 255; letter++) {
            boolean figure = letter >= '1' && letter <= '9';
            if (letter == '0') {
                dueCourt(text("k", letter, ";"), -12, 1);
            } else {
                dueCourt(text("k", letter, ";"), figure ? 0 : -11, figure ? -1 : letter == ' ' ? 2 : 1);
            }
        }
    }

    private static void eachLetterWithinANumber() {
        T.promise(4);
        for (int letter = 0; letter <= 255; letter++) {
            boolean figure = letter >= '0' && letter <= '9';
            DoubleChain x = dueCourt(text("k5", letter, "7;"), figure ? 0 : -11, figure ? -1 : letter == ' ' || letter == ';' ? 3 : 2);
            T.due("told(0)", x.told(0), figure ? 507 + (letter - '0') * 10 : 0);
        }
    }

    private static void eachLetterBehindANumber() {
        T.promise(4);
        for (int letter = 0; letter <= 255; letter++) {
            boolean figure = letter >= '0' && letter <= '9';
            boolean end = letter == ';';
            dueCourt(text("k5", letter, ""), end ? 0 : -11, end ? -1 : figure || letter == ' ' ? 3 : 2);
        }
    }

    private static void eachLetterBehindAClause() {
        T.promise(4);
        for (int letter = 0; letter <= 255; letter++) {
            boolean word = letter == 'p' || letter == 'd';
            if (letter == 'k') {
                dueCourt(text("k5;", letter, ""), -13, 3);
            } else {
                dueCourt(text("k5;", letter, ""), letter == ' ' ? 0 : -11, letter == ' ' ? -1 : word ? 4 : 3);
            }
        }
    }

    private static String text(String ahead, int letter, String behind) {
        return ahead + (char) letter + behind;
    }

    /** "An empty text (or one of blanks alone) has no FAULT: no COURT." */
    private static void noCourt() {
        T.promise(3);
        for (int blanks : new int[] {0, 1, 239, 240}) {
            DoubleChain x = dueCourt(" ".repeat(blanks), 0, -1);
            T.due("day(1) behind " + blanks + " blanks", x.day(1), Check.NOT);
            T.due("attempt() behind " + blanks + " blanks", x.attempt(), Check.NOT);
            T.due("drift(1) behind " + blanks + " blanks", x.drift(1), Check.NOT);
            T.due("shownAll() behind " + blanks + " blanks", x.shownAll(), Check.NOT);
        }
        DoubleChain x = dueCourt("k1;", 0, -1);
        T.due("day(1), a court without people", x.day(1), 0);
        T.due("attempt(), a court without people", x.attempt(), -1);
        T.due("drift(1), a court without people", x.drift(1), 0);
        T.due("shownAll(), a court without people", x.shownAll(), 0);
        T.due("court() of nothing", x.court(), 0);
        T.due("day(1) behind it", x.day(1), Check.NOT);
        T.due("undo() behind it", x.undo(), Check.NOT);
        T.due("told(4) behind it", x.told(4), 0);
    }

    /** "(DAY 0, all live, nobody SHOWN, nothing SPENT; nothing WATCHED, no BOOK; IMAGES, what could be undone are gone; THE SEED stays)". */
    private static void allIsNew() {
        T.promise(3);
        for (String text : new String[] {"k7;p6 0 0 9;p7 0 0 9;", "k7;", "", "  "}) {
            DoubleChain x = Check.of("k5;p1 0 0 9;p2 7 15 0;p3 7 15 0;d0 0 9;");
            x.seed(2147483647);
            x.keep(0);
            x.keep(1);
            x.watch(0, true);
            x.write(0, 0);
            x.day(3);
            x.attempt();
            x.hire();
            Check.feed(x, text);
            int people = text.length() > 3 ? 2 : 0;
            int pay = text.startsWith("k") ? 7 : 0;
            T.due("court() of " + text, x.court(), people);
            int[] want = {pay, people, 0, 0, 0, (1 << people) - 1, 0, people > 0 ? 0 : -1, 0, 0, 0, 0};
            for (int what = 0; what < want.length; what++) {
                T.due("told(" + what + ") behind court() of " + text, x.told(what), want[what]);
            }
            T.due("goBack(0)", x.goBack(0), Check.NOT);
            T.due("goBack(1)", x.goBack(1), Check.NOT);
            T.due("undo()", x.undo(), Check.NOT);
            T.due("judge()", x.judge(), -1);
            T.due("fits()", x.fits(), (1 << people) - 1);
            T.due("seed(0)", x.seed(0), 2147483647);
            T.due("hire(): he stays in never, whoever was third", x.hire(), people > 0 ? 2 : Check.NOT);
            T.due("byMarks(0, 0)", x.byMarks(0, 0), people > 0 ? 7 : 0);
            T.due("person(2, 1)", x.person(2, 1), people > 0 ? 0 : Check.UNKNOWN);
            T.due("person(2, 2)", x.person(2, 2), people > 0 ? 0 : Check.UNKNOWN);
            T.due("person(2, 3)", x.person(2, 3), people > 0 ? 9 : Check.UNKNOWN);
        }
    }

    /** "THE TEXT (it is empty then, with a FAULT, too)". */
    private static void textIsEmptyBehindCourt() {
        T.promise(3);
        for (String text : new String[] {"k1;", "k1;x", "k0;", "k1;k", "", "   "}) {
            DoubleChain x = new DoubleChain();
            Check.feed(x, text);
            x.court();
            T.due("told(3) behind court() of " + text, x.told(3), 0);
            T.due("feed('k') behind court() of " + text, x.feed('k'), 1);
            Check.feed(x, "2;");
            T.due("court() of k2;", x.court(), 0);
            T.due("told(0)", x.told(0), 2);
        }
    }

    /** "The place (from 0 on) of the letter that has the FAULT of the latest court(); NONE." */
    private static void faultOfTheLatest() {
        T.promise(4);
        DoubleChain x = new DoubleChain();
        T.due("fault() of a new one", x.fault(), -1);
        String[] texts = {"x", "k1;", "k1;x", "", "k 0;", "   ", "k1;p1 2 3 4;k", "k1;p1 2 3 4;"};
        int[] places = {0, -1, 3, -1, 2, -1, 12, -1};
        for (int i = 0; i < texts.length; i++) {
            Check.feed(x, texts[i]);
            x.court();
            T.due("fault() of " + texts[i], x.fault(), places[i]);
            x.day(1);
            x.feed(' ');
            T.due("fault() of " + texts[i] + ", later", x.fault(), places[i]);
            x.court();
            T.due("fault() of a blank", x.fault(), -1);
        }
    }

    /** Promise 5: "0 P .. 11 how many can be undone. OUTSIDE." */
    private static void told() {
        T.promise(5);
        DoubleChain x = Check.of("k999;" + EIGHT + TEN);
        int[] want = {999, 8, 10, 0, 0, 255, 0, -1, 0, 0, 0, 0};
        for (int what = 0; what < want.length; what++) {
            T.due("told(" + what + ")", x.told(what), want[what]);
        }
        for (int what : new int[] {-1, 12, Integer.MIN_VALUE, Integer.MAX_VALUE}) {
            T.due("told(" + what + ")", x.told(what), Check.OUTSIDE);
        }
    }

    /** Promise 6: UNKNOWN, OUTSIDE; "4 its place in THE CHAIN (NONE: dead), 5 PAY (0: dead), 6 .. (a dead one: as if it lived)". */
    private static void person() {
        T.promise(6);
        DoubleChain x = Check.of("k999;" + "p255 0 0 9;".repeat(7) + "p0 7 15 0;d2 3 9;");
        int[] pays = {999, 499, 249, 124, 62, 31, 15, 7};
        for (int p = 0; p < 8; p++) {
            T.due("person(" + p + ", 4)", x.person(p, 4), p);
            T.due("person(" + p + ", 5)", x.person(p, 5), pays[p]);
            T.due("person(" + p + ", 6)", x.person(p, 6), p < 7 ? 1 : 0);
            T.due("person(" + p + ", -1)", x.person(p, -1), Check.OUTSIDE);
            T.due("person(" + p + ", 7)", x.person(p, 7), Check.OUTSIDE);
        }
        T.due("person(-1, 0)", x.person(-1, 0), Check.UNKNOWN);
        T.due("person(8, 0)", x.person(8, 0), Check.UNKNOWN);
        T.due("person(8, 7)", x.person(8, 7), Check.UNKNOWN);
        T.due("person(-1, -1)", x.person(-1, -1), Check.UNKNOWN);
        for (int p = 0; p < 7; p++) {
            T.due("attempt()", x.attempt(), p);
            T.due("person(" + p + ", 0), dead", x.person(p, 0), 255);
            T.due("person(" + p + ", 4), dead", x.person(p, 4), -1);
            T.due("person(" + p + ", 5), dead", x.person(p, 5), 0);
            T.due("person(" + p + ", 6), dead", x.person(p, 6), 1);
            T.due("person(7, 4)", x.person(7, 4), 6 - p);
            T.due("person(7, 5)", x.person(7, 5), pays[6 - p]);
        }
    }

    /** Promise 7: UNKNOWN, OUTSIDE. */
    private static void dayTold() {
        T.promise(7);
        DoubleChain x = Check.of("k5;" + "d1 2 8;".repeat(9) + "d2 3 9;");
        int[] first = {1, 2, 8};
        int[] last = {2, 3, 9};
        for (int what = 0; what < 3; what++) {
            T.due("dayTold(0, " + what + ")", x.dayTold(0, what), first[what]);
            T.due("dayTold(9, " + what + ")", x.dayTold(9, what), last[what]);
            T.due("dayTold(10, " + what + ")", x.dayTold(10, what), Check.UNKNOWN);
            T.due("dayTold(-1, " + what + ")", x.dayTold(-1, what), Check.UNKNOWN);
        }
        for (int d : new int[] {0, 9}) {
            T.due("dayTold(" + d + ", -1)", x.dayTold(d, -1), Check.OUTSIDE);
            T.due("dayTold(" + d + ", 3)", x.dayTold(d, 3), Check.OUTSIDE);
        }
        T.due("dayTold(10, 3)", x.dayTold(10, 3), Check.UNKNOWN);
        T.due("dayTold(-1, -1)", x.dayTold(-1, -1), Check.UNKNOWN);
    }
}
