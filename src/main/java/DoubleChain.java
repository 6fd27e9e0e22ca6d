/** A king, his doubles of doubles, and the days on which they are seen. ../shared/DOC.md tells what each call answers. */
public final class DoubleChain {
    public static final int NONE = -1, UNKNOWN = -1000000001, OUTSIDE = -1000000002, NOT = -1000000003, FULL = -1000000004;

    private static final int LETTERS = 240, LETTER_BOUND = 255;
    private static final int PEOPLE = 8, DAYS_TOLD = 10;
    private static final int PAY_BOUND = 999, MARKS_BOUND = 255, STAYS_BY_WEATHER_BOUND = 7, STAYS_BY_HOUR_BOUND = 15;
    private static final int WEATHER_BOUND = 2, HOUR_BOUND = 3, DANGER_BOUND = 9, FEAR_BOUND = 9;
    private static final int CANNOT_STAND = 1, WRONG_NUMBER = 2, TOO_MANY = 3, FAULTS_ABOVE = -10;
    private static final int FIGURES = 3;
    private static final int SPENT_BOUND = 999999, LAST_DAY = 9000, DAYS_AT_ONCE = 60;
    private static final int UNDONE_KEPT = 20, WATCHED_KEPT = 8, BOOK_KEPT = 15;
    private static final int SENT_DAYS = 6, SHOWN_DAYS = 99;
    private static final int BILLION = 1000000000, HUNDRED = 100;
    private static final long DRAW_FACTOR = 1103515245L, DRAW_MORE = 12345L, DRAW_BOUND = 1L << 31;
    private static final int DRAW_CUT = 65536;

    private final Text text;
    private final Chain now;
    private final Past past;
    private final Image imageZero;
    private final Image imageOne;
    private final Watched watched;
    private final Book book;
    private final int[] goers;
    private Court theCourt;
    private Court draft;
    private int theSeed;

    public DoubleChain() {
        text = new Text();
        now = new Chain();
        past = new Past();
        imageZero = new Image();
        imageOne = new Image();
        watched = new Watched();
        book = new Book();
        goers = new int[SENT_DAYS];
        theCourt = new Court();
        draft = new Court();
        theSeed = 0;
    }

    // ---- the court

    public int feed(int letter) {
        if (!within(letter, 0, LETTER_BOUND)) {
            return OUTSIDE;
        }
        return text.append(letter) ? text.length : FULL;
    }

    public int court() {
        int fault = text.readInto(draft);
        if (fault != 0) {
            return FAULTS_ABOVE - fault;
        }
        Court read = draft;
        draft = theCourt;
        theCourt = read;
        now.begin(theCourt);
        past.forget();
        imageZero.kept = false;
        imageOne.kept = false;
        watched.count = 0;
        book.count = 0;
        return theCourt.people;
    }

    public int fault() {
        return text.faultAt;
    }

    public int told(int what) {
        switch (what) {
            case 0: return theCourt.pay;
            case 1: return now.people;
            case 2: return theCourt.days;
            case 3: return text.length;
            case 4: return now.days;
            case 5: return now.living;
            case 6: return now.shown;
            case 7: return now.seenOn(theCourt, now.days);
            case 8: return now.spent;
            case 9: return watched.count;
            case 10: return book.count;
            case 11: return past.count;
            default: return OUTSIDE;
        }
    }

    public int person(int p, int what) {
        if (!now.has(p)) {
            return UNKNOWN;
        }
        switch (what) {
            case 0: return at(now.marks, p);
            case 1: return at(theCourt.inWeathers, p);
            case 2: return at(theCourt.inHours, p);
            case 3: return at(theCourt.fears, p);
            case 4: return now.lives(p) ? now.aheadOf(p) : NONE;
            case 5: return now.lives(p) ? theCourt.payAt(now.aheadOf(p)) : 0;
            case 6: return theCourt.goesOutOn(p, now.days) ? 1 : 0;
            default: return OUTSIDE;
        }
    }

    public int dayTold(int d, int what) {
        if (!theCourt.hasDay(d)) {
            return UNKNOWN;
        }
        switch (what) {
            case 0: return theCourt.weatherOn(d);
            case 1: return theCourt.hourOn(d);
            case 2: return theCourt.dangerOn(d);
            default: return OUTSIDE;
        }
    }

    // ---- what is done

    public int day(int n) {
        int refusal = refusalOfDays(n);
        if (refusal != 0) {
            return refusal;
        }
        past.push(now);
        for (int i = 0; i < n; i++) {
            now.passDay(theCourt);
        }
        return now.spent;
    }

    public int attempt() {
        if (!theCourt.stands()) {
            return NOT;
        }
        past.push(now);
        return now.loseSeen(theCourt);
    }

    public int hire() {
        if (now.living == 0) {
            return NOT;
        }
        if (now.people >= PEOPLE) {
            return FULL;
        }
        past.push(now);
        return now.takeOn();
    }

    public int drift(int n) {
        int refusal = refusalOfDays(n);
        if (refusal != 0) {
            return refusal;
        }
        past.push(now);
        for (int i = 0; i < n; i++) {
            if (draw(HUNDRED) < theCourt.dangerOn(now.days)) {
                now.loseSeen(theCourt);
            }
            now.passDay(theCourt);
        }
        return Integer.bitCount(now.living);
    }

    public int undo() {
        if (past.count == 0) {
            return NOT;
        }
        past.popInto(now);
        return past.count;
    }

    /** 0, if n days may go by. */
    private int refusalOfDays(int n) {
        if (!within(n, 1, DAYS_AT_ONCE)) {
            return OUTSIDE;
        }
        if (!theCourt.stands()) {
            return NOT;
        }
        return now.days > LAST_DAY ? FULL : 0;
    }

    private int draw(int n) {
        theSeed = (int) ((theSeed * DRAW_FACTOR + DRAW_MORE) % DRAW_BOUND);
        return n > 0 ? theSeed / DRAW_CUT % n : 0;
    }

    // ---- tried

    public int would(int weather, int hour, int danger) {
        if (!within(weather, 0, WEATHER_BOUND) || !within(hour, 0, HOUR_BOUND) || !within(danger, 0, DANGER_BOUND)) {
            return OUTSIDE;
        }
        return now.seenBy(theCourt, weather, hour, danger);
    }

    public int firstNobody(int n) {
        if (!within(n, 0, DAYS_AT_ONCE)) {
            return OUTSIDE;
        }
        for (int i = 0; i < n; i++) {
            if (now.seenOn(theCourt, now.days + i) == NONE) {
                return now.days + i;
            }
        }
        return NONE;
    }

    public int send(int n, int i) {
        if (!within(n, 1, SENT_DAYS)) {
            return OUTSIDE;
        }
        if (!within(i, 0, n - 1)) {
            return NONE;
        }
        for (int d = 0; d < n; d++) {
            put(goers, d, now.goersOn(theCourt, now.days + d));
        }
        int sent = NONE;
        int used = 0;
        for (int d = 0; d <= i; d++) {
            sent = leastToSend(d, n, used);
            if (sent == NONE) {
                return NONE;
            }
            used |= 1 << sent;
        }
        return sent;
    }

    /** The least one for day d who leaves enough people for the days behind it. */
    private int leastToSend(int d, int n, int used) {
        int free = at(goers, d) & ~used;
        for (int p = 0; p < PEOPLE; p++) {
            if (holds(free, p) && canFill(d + 1, n, used | (1 << p))) {
                return p;
            }
        }
        return NONE;
    }

    /** By Hall's theorem: each day can have one of its own if any k of the days have k people among them. */
    private boolean canFill(int from, int n, int used) {
        int sets = 1 << (n - from);
        for (int set = 1; set < sets; set++) {
            int people = 0;
            for (int d = from; d < n; d++) {
                if (holds(set, d - from)) {
                    people |= at(goers, d) & ~used;
                }
            }
            if (Integer.bitCount(people) < Integer.bitCount(set)) {
                return false;
            }
        }
        return true;
    }

    public int byMarks(int all, int none) {
        if (!within(all, 0, MARKS_BOUND) || !within(none, 0, MARKS_BOUND)) {
            return OUTSIDE;
        }
        int found = 0;
        for (int p = 0; p < PEOPLE; p++) {
            int marks = at(now.marks, p);
            if (now.lives(p) && (marks & all) == all && (marks & none) == 0) {
                found |= 1 << p;
            }
        }
        return found;
    }

    public int diedAt(int p) {
        if (!now.has(p)) {
            return UNKNOWN;
        }
        return now.lives(p) ? NOT : now.aheadOf(p);
    }

    public int classes(int p) {
        if (p == NONE) {
            return now.countClasses();
        }
        if (!now.has(p)) {
            return UNKNOWN;
        }
        return now.lives(p) ? now.alike(p) : 0;
    }

    public int tell(boolean all) {
        if (now.living == 0) {
            return NONE;
        }
        int best = NONE;
        for (int set = 0; set <= MARKS_BOUND; set++) {
            boolean fewer = best == NONE || Integer.bitCount(set) < Integer.bitCount(best);
            if (fewer && now.isToldBy(set, all)) {
                best = set;
            }
        }
        return best;
    }

    public int reign() {
        int needed = 0;
        for (int d = 0; d < theCourt.days; d++) {
            int seen = now.seenOn(theCourt, d);
            if (seen == NONE) {
                return NONE;
            }
            needed = Math.max(needed, now.aheadOf(seen) + 1);
        }
        return needed;
    }

    public int shownAll() {
        if (!theCourt.stands()) {
            return NOT;
        }
        int hidden = now.living & ~now.shown;
        for (int i = 0; i <= SHOWN_DAYS; i++) {
            if (hidden == 0) {
                return i;
            }
            int seen = now.seenOn(theCourt, now.days + i);
            if (seen != NONE) {
                hidden &= ~(1 << seen);
            }
        }
        return NONE;
    }

    public int apart(int p, int q) {
        if (!now.has(p) || !now.has(q) || p == q) {
            return UNKNOWN;
        }
        return Integer.bitCount(at(now.marks, p) ^ at(now.marks, q));
    }

    public int safe(int n, int q) {
        if (!within(n, 0, DAYS_AT_ONCE) || !within(q, 0, HUNDRED)) {
            return OUTSIDE;
        }
        long odds = BILLION;
        for (int i = 0; i < n; i++) {
            int risk = Math.min(HUNDRED, q + theCourt.dangerOn(now.days + i));
            odds = odds * (HUNDRED - risk) / HUNDRED;
        }
        return (int) odds;
    }

    // ---- what was watched

    public int watch(int d, boolean out) {
        if (!theCourt.hasDay(d)) {
            return UNKNOWN;
        }
        return watched.add(d, out) ? watched.count : FULL;
    }

    public int fits() {
        int fitting = 0;
        for (int p = 0; p < now.people; p++) {
            if (watched.isFitting(theCourt, p)) {
                fitting |= 1 << p;
            }
        }
        return fitting;
    }

    public int lookOn() {
        int fitting = fits();
        int best = NONE;
        int least = Integer.bitCount(fitting);
        for (int d = 0; d < theCourt.days; d++) {
            int out = Integer.bitCount(fitting & theCourt.goersOn(d));
            int greatest = Math.max(out, Integer.bitCount(fitting) - out);
            if (greatest < least) {
                best = d;
                least = greatest;
            }
        }
        return best;
    }

    public int write(int p, int marks) {
        if (!now.has(p)) {
            return UNKNOWN;
        }
        if (!within(marks, 0, MARKS_BOUND)) {
            return OUTSIDE;
        }
        return book.add(p, marks) ? book.count : FULL;
    }

    public int tear() {
        int torn = watched.count + book.count;
        watched.count = 0;
        book.count = 0;
        return torn;
    }

    public int judge() {
        return book.firstWrong(now);
    }

    // ---- draws, images

    public int seed(int v) {
        if (v < 0) {
            return OUTSIDE;
        }
        int before = theSeed;
        theSeed = v;
        return before;
    }

    public int keep(int i) {
        Image image = imageAt(i);
        if (image == null) {
            return UNKNOWN;
        }
        image.kept = true;
        image.seed = theSeed;
        image.chain.become(now);
        past.forget();
        return 1;
    }

    public int goBack(int i) {
        Image image = imageAt(i);
        if (image == null) {
            return UNKNOWN;
        }
        if (!image.kept) {
            return NOT;
        }
        theSeed = image.seed;
        now.become(image.chain);
        past.forget();
        return 1;
    }

    private Image imageAt(int i) {
        if (i == 0) {
            return imageZero;
        }
        return i == 1 ? imageOne : null;
    }

    // ---- numbers, sets, rows

    private static boolean within(int number, int low, int high) {
        return number >= low && number <= high;
    }

    private static boolean holds(int set, int k) {
        return ((set >> k) & 1) == 1;
    }

    private static int leastOf(int set) {
        return set & -set;
    }

    private static int at(int[] row, int i) {
        return i >= 0 && i < row.length ? row[i] : 0;
    }

    private static void put(int[] row, int i, int number) {
        if (i >= 0 && i < row.length) {
            row[i] = number;
        }
    }

    /** What is told of the king, the people and the days; it stays while the days go by. */
    private static final class Court {
        final int[] marks = new int[PEOPLE];
        final int[] inWeathers = new int[PEOPLE];
        final int[] inHours = new int[PEOPLE];
        final int[] fears = new int[PEOPLE];
        final int[] weathers = new int[DAYS_TOLD];
        final int[] hours = new int[DAYS_TOLD];
        final int[] dangers = new int[DAYS_TOLD];
        int pay;
        int people;
        int days;

        void clear() {
            pay = 0;
            people = 0;
            days = 0;
            // Whoever is hired later stands behind those told: he stays in never.
            for (int p = 0; p < PEOPLE; p++) {
                put(inWeathers, p, 0);
                put(inHours, p, 0);
                put(fears, p, FEAR_BOUND);
            }
        }

        void addPerson(int itsMarks, int itsWeathers, int itsHours, int itsFear) {
            put(marks, people, itsMarks);
            put(inWeathers, people, itsWeathers);
            put(inHours, people, itsHours);
            put(fears, people, itsFear);
            people++;
        }

        void addDay(int weather, int hour, int danger) {
            put(weathers, days, weather);
            put(hours, days, hour);
            put(dangers, days, danger);
            days++;
        }

        /** A court has a king's pay, of 1 at least. */
        boolean stands() {
            return pay > 0;
        }

        boolean hasDay(int d) {
            return d >= 0 && d < days;
        }

        int payAt(int place) {
            return pay >> place;
        }

        int weatherOn(int t) {
            return onDay(weathers, t);
        }

        int hourOn(int t) {
            return onDay(hours, t);
        }

        int dangerOn(int t) {
            return onDay(dangers, t);
        }

        int onDay(int[] row, int t) {
            return days > 0 ? at(row, t % days) : 0;
        }

        boolean goesOut(int p, int weather, int hour, int danger) {
            return !holds(at(inWeathers, p), weather) && !holds(at(inHours, p), hour) && danger <= at(fears, p);
        }

        boolean goesOutOn(int p, int t) {
            return goesOut(p, weatherOn(t), hourOn(t), dangerOn(t));
        }

        /** Of all that could ever be, dead or not. */
        int goersOn(int t) {
            int out = 0;
            for (int p = 0; p < PEOPLE; p++) {
                if (goesOutOn(p, t)) {
                    out |= 1 << p;
                }
            }
            return out;
        }
    }

    /** The text that is fed, and the fault of the one read last. */
    private static final class Text {
        final int[] letters = new int[LETTERS];
        int length = 0;
        int place = 0;
        int fault = 0;
        int faultAt = NONE;

        boolean append(int letter) {
            if (length >= LETTERS) {
                return false;
            }
            put(letters, length, letter);
            length++;
            return true;
        }

        /** The number of the fault, 0 if there is none; the text is empty then. */
        int readInto(Court court) {
            court.clear();
            place = 0;
            fault = 0;
            faultAt = NONE;
            skipBlanks();
            for (int clause = 0; clause < LETTERS && place < length && fault == 0; clause++) {
                readClause(court);
                skipBlanks();
            }
            length = 0;
            return fault;
        }

        void readClause(Court court) {
            int word = at(letters, place);
            int wrong = wordFault(word, court);
            if (wrong != 0) {
                fail(wrong, place);
                return;
            }
            place++;
            switch (word) {
                case 'k':
                    readKing(court);
                    break;
                case 'p':
                    readPerson(court);
                    break;
                default:
                    readDay(court);
                    break;
            }
        }

        int wordFault(int word, Court court) {
            if (!court.stands()) {
                return word == 'k' ? 0 : CANNOT_STAND;
            }
            switch (word) {
                case 'k': return TOO_MANY;
                case 'p': return court.people < PEOPLE ? 0 : TOO_MANY;
                case 'd': return court.days < DAYS_TOLD ? 0 : TOO_MANY;
                default: return CANNOT_STAND;
            }
        }

        void readKing(Court court) {
            int pay = readNumber(1, PAY_BOUND);
            readEnd();
            if (fault == 0) {
                court.pay = pay;
            }
        }

        void readPerson(Court court) {
            int marks = readNumber(0, MARKS_BOUND);
            int weathers = readNumber(0, STAYS_BY_WEATHER_BOUND);
            int hours = readNumber(0, STAYS_BY_HOUR_BOUND);
            int fear = readNumber(0, FEAR_BOUND);
            readEnd();
            if (fault == 0) {
                court.addPerson(marks, weathers, hours, fear);
            }
        }

        void readDay(Court court) {
            int weather = readNumber(0, WEATHER_BOUND);
            int hour = readNumber(0, HOUR_BOUND);
            int danger = readNumber(0, DANGER_BOUND);
            readEnd();
            if (fault == 0) {
                court.addDay(weather, hour, danger);
            }
        }

        int readNumber(int low, int high) {
            if (fault != 0) {
                return 0;
            }
            skipBlanks();
            int first = place;
            int number = 0;
            while (place < length && within(at(letters, place), '0', '9')) {
                // A number of too many figures is refused by their count: what it comes to is all one.
                number = number * 10 + at(letters, place) - '0';
                place++;
            }
            if (place == first) {
                fail(CANNOT_STAND, place);
            } else if (place - first > FIGURES || !within(number, low, high)) {
                fail(WRONG_NUMBER, first);
            }
            return number;
        }

        void readEnd() {
            if (fault != 0) {
                return;
            }
            skipBlanks();
            if (place < length && at(letters, place) == ';') {
                place++;
            } else {
                fail(CANNOT_STAND, place);
            }
        }

        void skipBlanks() {
            while (place < length && at(letters, place) == ' ') {
                place++;
            }
        }

        void fail(int number, int where) {
            fault = number;
            faultAt = where;
        }
    }

    /** All that changes as days go by and people die or are hired. The chain is always by numbers: who is hired comes last. */
    private static final class Chain {
        final int[] marks = new int[PEOPLE];
        int people = 0;
        int living = 0;
        int shown = 0;
        int spent = 0;
        int days = 0;

        void begin(Court court) {
            takeMarks(court.marks);
            people = court.people;
            living = (1 << court.people) - 1;
            shown = 0;
            spent = 0;
            days = 0;
        }

        void become(Chain other) {
            takeMarks(other.marks);
            people = other.people;
            living = other.living;
            shown = other.shown;
            spent = other.spent;
            days = other.days;
        }

        void takeMarks(int[] from) {
            for (int p = 0; p < PEOPLE; p++) {
                put(marks, p, at(from, p));
            }
        }

        boolean has(int p) {
            return p >= 0 && p < people;
        }

        boolean lives(int p) {
            return holds(living, p);
        }

        /** How many that live stand ahead of where p is or would be. */
        int aheadOf(int p) {
            return Integer.bitCount(living & ((1 << p) - 1));
        }

        int seenBy(Court court, int weather, int hour, int danger) {
            for (int p = 0; p < PEOPLE; p++) {
                if (lives(p) && court.goesOut(p, weather, hour, danger)) {
                    return p;
                }
            }
            return NONE;
        }

        int seenOn(Court court, int t) {
            return seenBy(court, court.weatherOn(t), court.hourOn(t), court.dangerOn(t));
        }

        int goersOn(Court court, int t) {
            return living & court.goersOn(t);
        }

        void passDay(Court court) {
            int seen = seenOn(court, days);
            if (seen != NONE) {
                shown |= 1 << seen;
            }
            int length = Integer.bitCount(living);
            for (int place = 0; place < length; place++) {
                spent = Math.min(SPENT_BOUND, spent + court.payAt(place));
            }
            copyMarks();
            days++;
        }

        /** From the last one on, so that the one ahead is still as he was in the morning. */
        void copyMarks() {
            int behind = NONE;
            for (int p = PEOPLE - 1; p >= 0; p--) {
                if (lives(p)) {
                    if (behind != NONE) {
                        put(marks, behind, copied(at(marks, behind), at(marks, p)));
                    }
                    behind = p;
                }
            }
        }

        int copied(int own, int ahead) {
            int lacking = ahead & ~own;
            if (lacking != 0) {
                return own | leastOf(lacking);
            }
            return own & ~leastOf(own & ~ahead);
        }

        int loseSeen(Court court) {
            int seen = seenOn(court, days);
            if (seen != NONE) {
                living &= ~(1 << seen);
            }
            return seen;
        }

        /** The number of the one hired, behind the last that lives. */
        int takeOn() {
            int hired = people;
            for (int p = 0; p < people; p++) {
                if (lives(p)) {
                    put(marks, hired, at(marks, p));
                }
            }
            living |= 1 << hired;
            people++;
            return hired;
        }

        /** Who of the chain has the marks of p. */
        int alike(int p) {
            int found = 0;
            for (int q = 0; q < PEOPLE; q++) {
                if (lives(q) && at(marks, q) == at(marks, p)) {
                    found |= 1 << q;
                }
            }
            return found;
        }

        /** Each class is counted at its least one. */
        int countClasses() {
            int count = 0;
            for (int p = 0; p < PEOPLE; p++) {
                if (lives(p) && leastOf(alike(p)) == 1 << p) {
                    count++;
                }
            }
            return count;
        }

        /** Whether marks of the set alone part each from each, or only the first from each other one. */
        boolean isToldBy(int set, boolean each) {
            for (int p = 0; p < PEOPLE; p++) {
                if (lives(p) && (each || aheadOf(p) == 0) && !isUnlikeThoseBehind(p, set)) {
                    return false;
                }
            }
            return true;
        }

        boolean isUnlikeThoseBehind(int p, int set) {
            for (int q = p + 1; q < PEOPLE; q++) {
                if (lives(q) && ((at(marks, p) ^ at(marks, q)) & set) == 0) {
                    return false;
                }
            }
            return true;
        }
    }

    /** The chains as they were ahead of what can be undone, in a ring: the oldest gives its place. */
    private static final class Past {
        final Chain[] ring = new Chain[UNDONE_KEPT];
        int next = 0;
        int count = 0;

        Past() {
            for (int i = 0; i < ring.length; i++) {
                ring[i] = new Chain();
            }
        }

        void forget() {
            count = 0;
        }

        void push(Chain chain) {
            Chain place = ringAt(next);
            if (place == null) {
                return;
            }
            place.become(chain);
            next = next + 1 < UNDONE_KEPT ? next + 1 : 0;
            count = Math.min(UNDONE_KEPT, count + 1);
        }

        void popInto(Chain chain) {
            int latest = next > 0 ? next - 1 : UNDONE_KEPT - 1;
            Chain place = ringAt(latest);
            if (place == null || count == 0) {
                return;
            }
            chain.become(place);
            next = latest;
            count--;
        }

        Chain ringAt(int i) {
            return i >= 0 && i < ring.length ? ring[i] : null;
        }
    }

    /** A chain and a seed to go on from. */
    private static final class Image {
        final Chain chain = new Chain();
        int seed = 0;
        boolean kept = false;
    }

    /** On which days he was watched, and at which of the entries he went out. */
    private static final class Watched {
        final int[] days = new int[WATCHED_KEPT];
        int outs = 0;
        int count = 0;

        boolean add(int d, boolean out) {
            if (count >= WATCHED_KEPT) {
                return false;
            }
            put(days, count, d);
            // The bit may still be set by an entry that was torn.
            outs = out ? outs | (1 << count) : outs & ~(1 << count);
            count++;
            return true;
        }

        boolean isFitting(Court court, int p) {
            for (int i = 0; i < count; i++) {
                if (court.goesOutOn(p, at(days, i)) != holds(outs, i)) {
                    return false;
                }
            }
            return true;
        }
    }

    /** Which marks were written of whom. */
    private static final class Book {
        final int[] people = new int[BOOK_KEPT];
        final int[] marks = new int[BOOK_KEPT];
        int count = 0;

        boolean add(int p, int itsMarks) {
            if (count >= BOOK_KEPT) {
                return false;
            }
            put(people, count, p);
            put(marks, count, itsMarks);
            count++;
            return true;
        }

        int firstWrong(Chain chain) {
            for (int i = 0; i < count; i++) {
                int p = at(people, i);
                if (!chain.has(p) || at(chain.marks, p) != at(marks, i)) {
                    return i;
                }
            }
            return NONE;
        }
    }
}
