import java.util.ArrayDeque;
import java.util.ArrayList;
import java.util.Deque;
import java.util.List;
import java.util.TreeMap;
import java.util.TreeSet;

/** The document once more, by other means: whole copies, lists and trying everything. Only ModelTest uses it. */
final class Model {
    private static final class Person {
        int weathers;
        int hours;
        int fear = 9;
        boolean[] marks = new boolean[8];
        boolean dead;
        boolean shown;

        Person copy() {
            Person other = new Person();
            other.weathers = weathers;
            other.hours = hours;
            other.fear = fear;
            other.marks = marks.clone();
            other.dead = dead;
            other.shown = shown;
            return other;
        }

        int set() {
            int set = 0;
            for (int k = 0; k < 8; k++) {
                set += marks[k] ? 1 << k : 0;
            }
            return set;
        }

        boolean out(int[] day) {
            boolean weather = (weathers & (1 << day[0])) != 0;
            boolean hour = (hours & (1 << day[1])) != 0;
            return !(weather || hour || day[2] > fear);
        }
    }

    private static final class State {
        List<Person> people = new ArrayList<>();
        int days;
        int spent;

        State copy() {
            State other = new State();
            for (Person p : people) {
                other.people.add(p.copy());
            }
            other.days = days;
            other.spent = spent;
            return other;
        }
    }

    private final StringBuilder text = new StringBuilder();
    private int faultAt = -1;
    private int pay;
    private List<int[]> days = new ArrayList<>();
    private State now = new State();
    private final Deque<State> past = new ArrayDeque<>();
    private final State[] images = new State[2];
    private final long[] imageSeeds = new long[2];
    private final List<int[]> watched = new ArrayList<>();
    private final List<int[]> book = new ArrayList<>();
    private long seed;

    int feed(int letter) {
        if (letter < 0 || letter > 255) {
            return Check.OUTSIDE;
        }
        if (text.length() == 240) {
            return Check.FULL;
        }
        text.append((char) letter);
        return text.length();
    }

    // A token is {kind, first place, text}: kind 'n' a number, else the letter itself; the end is kind 0.
    private record Token(int kind, int place, String text) { }

    private List<Token> tokens(String s) {
        List<Token> all = new ArrayList<>();
        int i = 0;
        while (i < s.length()) {
            char c = s.charAt(i);
            int first = i;
            i++;
            if (c == ' ') {
                continue;
            }
            if (c >= '0' && c <= '9') {
                while (i < s.length() && s.charAt(i) >= '0' && s.charAt(i) <= '9') {
                    i++;
                }
                all.add(new Token('n', first, s.substring(first, i)));
            } else {
                all.add(new Token(c == 'n' ? 1000 : c, first, ""));
            }
        }
        return all;
    }

    int court() {
        String s = text.toString();
        text.setLength(0);
        faultAt = -1;
        List<Token> all = tokens(s);
        int newPay = 0;
        List<Person> people = new ArrayList<>();
        List<int[]> newDays = new ArrayList<>();
        int i = 0;
        while (i < all.size()) {
            Token word = all.get(i);
            String bounds = newPay == 0 ? (word.kind() == 'k' ? "999" : null)
                : word.kind() == 'k' ? "" : word.kind() == 'p' ? "255 7 15 9" : word.kind() == 'd' ? "2 3 9" : null;
            if (bounds == null) {
                return failed(1, word.place());
            }
            boolean full = word.kind() == 'p' && people.size() == 8 || word.kind() == 'd' && newDays.size() == 10;
            if (bounds.isEmpty() || full) {
                return failed(3, word.place());
            }
            String[] most = bounds.split(" ");
            int[] got = new int[most.length];
            for (int k = 0; k < most.length; k++) {
                i++;
                Token number = i < all.size() ? all.get(i) : new Token(0, s.length(), "");
                if (number.kind() != 'n') {
                    return failed(1, number.place());
                }
                boolean bad = number.text().length() > 3;
                if (!bad) {
                    got[k] = Integer.parseInt(number.text());
                    bad = got[k] > Integer.parseInt(most[k]) || word.kind() == 'k' && got[k] == 0;
                }
                if (bad) {
                    return failed(2, number.place());
                }
            }
            i++;
            Token end = i < all.size() ? all.get(i) : new Token(0, s.length(), "");
            if (end.kind() != ';') {
                return failed(1, end.place());
            }
            i++;
            if (word.kind() == 'k') {
                newPay = got[0];
            } else if (word.kind() == 'd') {
                newDays.add(got);
            } else {
                Person p = new Person();
                for (int k = 0; k < 8; k++) {
                    p.marks[k] = (got[0] >> k) % 2 == 1;
                }
                p.weathers = got[1];
                p.hours = got[2];
                p.fear = got[3];
                people.add(p);
            }
        }
        pay = newPay;
        days = newDays;
        now = new State();
        now.people = people;
        past.clear();
        images[0] = null;
        images[1] = null;
        watched.clear();
        book.clear();
        return people.size();
    }

    private int failed(int number, int place) {
        faultAt = place;
        return -10 - number;
    }

    int fault() {
        return faultAt;
    }

    private List<Integer> chain() {
        List<Integer> chain = new ArrayList<>();
        for (int p = 0; p < now.people.size(); p++) {
            if (!now.people.get(p).dead) {
                chain.add(p);
            }
        }
        return chain;
    }

    private int[] dayOf(int t) {
        return days.isEmpty() ? new int[3] : days.get(t % days.size());
    }

    private int seen(int[] day) {
        for (int p : chain()) {
            if (now.people.get(p).out(day)) {
                return p;
            }
        }
        return -1;
    }

    private static int setOf(Iterable<Integer> numbers) {
        int set = 0;
        for (int n : numbers) {
            set |= 1 << n;
        }
        return set;
    }

    private boolean none(int p) {
        return p < 0 || p >= now.people.size();
    }

    int told(int what) {
        if (what < 0 || what > 11) {
            return Check.OUTSIDE;
        }
        List<Integer> shown = new ArrayList<>();
        for (int p = 0; p < now.people.size(); p++) {
            if (now.people.get(p).shown) {
                shown.add(p);
            }
        }
        int[] all = {pay, now.people.size(), days.size(), text.length(), now.days, setOf(chain()), setOf(shown),
            seen(dayOf(now.days)), now.spent, watched.size(), book.size(), past.size()};
        return all[what];
    }

    private int payOf(int place) {
        int left = pay;
        for (int i = 0; i < place; i++) {
            left /= 2;
        }
        return left;
    }

    int person(int p, int what) {
        if (none(p)) {
            return Check.UNKNOWN;
        }
        if (what < 0 || what > 6) {
            return Check.OUTSIDE;
        }
        Person one = now.people.get(p);
        int place = chain().indexOf(p);
        int[] all = {one.set(), one.weathers, one.hours, one.fear, place, place < 0 ? 0 : payOf(place), one.out(dayOf(now.days)) ? 1 : 0};
        return all[what];
    }

    int dayTold(int d, int what) {
        if (d < 0 || d >= days.size()) {
            return Check.UNKNOWN;
        }
        return what < 0 || what > 2 ? Check.OUTSIDE : days.get(d)[what];
    }

    private void remember() {
        past.addLast(now.copy());
        if (past.size() > 20) {
            past.removeFirst();
        }
    }

    private void pass() {
        int seen = seen(dayOf(now.days));
        if (seen >= 0) {
            now.people.get(seen).shown = true;
        }
        List<Integer> chain = chain();
        List<boolean[]> morning = new ArrayList<>();
        for (int i = 0; i < chain.size(); i++) {
            now.spent += payOf(i);
            morning.add(now.people.get(chain.get(i)).marks.clone());
        }
        now.spent = Math.min(now.spent, 999999);
        for (int i = 1; i < chain.size(); i++) {
            copy(now.people.get(chain.get(i)).marks, morning.get(i - 1));
        }
        now.days++;
    }

    private static void copy(boolean[] own, boolean[] ahead) {
        for (int k = 0; k < 8; k++) {
            if (ahead[k] && !own[k]) {
                own[k] = true;
                return;
            }
        }
        for (int k = 0; k < 8; k++) {
            if (own[k] && !ahead[k]) {
                own[k] = false;
                return;
            }
        }
    }

    private int strike() {
        int seen = seen(dayOf(now.days));
        if (seen >= 0) {
            now.people.get(seen).dead = true;
        }
        return seen;
    }

    private int refusal(int n) {
        return n < 1 || n > 60 ? Check.OUTSIDE : pay == 0 ? Check.NOT : now.days > 9000 ? Check.FULL : 0;
    }

    int day(int n) {
        int refusal = refusal(n);
        if (refusal != 0) {
            return refusal;
        }
        remember();
        for (int i = 0; i < n; i++) {
            pass();
        }
        return now.spent;
    }

    int attempt() {
        if (pay == 0) {
            return Check.NOT;
        }
        remember();
        return strike();
    }

    int hire() {
        List<Integer> chain = chain();
        if (chain.isEmpty()) {
            return Check.NOT;
        }
        if (now.people.size() == 8) {
            return Check.FULL;
        }
        remember();
        Person one = new Person();
        one.marks = now.people.get(chain.get(chain.size() - 1)).marks.clone();
        now.people.add(one);
        return now.people.size() - 1;
    }

    int drift(int n) {
        int refusal = refusal(n);
        if (refusal != 0) {
            return refusal;
        }
        remember();
        for (int i = 0; i < n; i++) {
            seed = (seed * 1103515245L + 12345) % (1L << 31);
            if (seed / 65536 % 100 < dayOf(now.days)[2]) {
                strike();
            }
            pass();
        }
        return chain().size();
    }

    int undo() {
        if (past.isEmpty()) {
            return Check.NOT;
        }
        now = past.removeLast();
        return past.size();
    }

    int would(int weather, int hour, int danger) {
        boolean outside = weather < 0 || weather > 2 || hour < 0 || hour > 3 || danger < 0 || danger > 9;
        return outside ? Check.OUTSIDE : seen(new int[] {weather, hour, danger});
    }

    int firstNobody(int n) {
        if (n < 0 || n > 60) {
            return Check.OUTSIDE;
        }
        for (int t = now.days; t < now.days + n; t++) {
            if (seen(dayOf(t)) < 0) {
                return t;
            }
        }
        return -1;
    }

    int send(int n, int i) {
        if (n < 1 || n > 6) {
            return Check.OUTSIDE;
        }
        List<Integer> sent = way(n, new ArrayList<>());
        return sent == null || i < 0 || i >= n ? -1 : sent.get(i);
    }

    private List<Integer> way(int n, List<Integer> sent) {
        if (sent.size() == n) {
            return sent;
        }
        for (int p : chain()) {
            if (!sent.contains(p) && now.people.get(p).out(dayOf(now.days + sent.size()))) {
                List<Integer> more = new ArrayList<>(sent);
                more.add(p);
                List<Integer> found = way(n, more);
                if (found != null) {
                    return found;
                }
            }
        }
        return null;
    }

    int byMarks(int all, int none) {
        if (all < 0 || all > 255 || none < 0 || none > 255) {
            return Check.OUTSIDE;
        }
        List<Integer> found = new ArrayList<>();
        for (int p : chain()) {
            boolean fits = true;
            for (int k = 0; k < 8; k++) {
                boolean has = now.people.get(p).marks[k];
                fits = fits && !((all >> k) % 2 == 1 && !has) && !((none >> k) % 2 == 1 && has);
            }
            if (fits) {
                found.add(p);
            }
        }
        return setOf(found);
    }

    int diedAt(int p) {
        if (none(p)) {
            return Check.UNKNOWN;
        }
        List<Integer> chain = chain();
        return chain.contains(p) ? Check.NOT : (int) chain.stream().filter(q -> q < p).count();
    }

    int classes(int p) {
        TreeMap<Integer, Integer> classes = new TreeMap<>();
        for (int q : chain()) {
            classes.merge(now.people.get(q).set(), 1 << q, Integer::sum);
        }
        if (p == -1) {
            return classes.size();
        }
        if (none(p)) {
            return Check.UNKNOWN;
        }
        return now.people.get(p).dead ? 0 : classes.get(now.people.get(p).set());
    }

    int tell(boolean all) {
        List<Integer> chain = chain();
        for (int count = 0; count <= 8 && !chain.isEmpty(); count++) {
            for (int set = 0; set < 256; set++) {
                if (Integer.bitCount(set) == count && parts(chain, set, all)) {
                    return set;
                }
            }
        }
        return -1;
    }

    private boolean parts(List<Integer> chain, int set, boolean all) {
        TreeSet<Integer> looks = new TreeSet<>();
        int first = now.people.get(chain.get(0)).set() & set;
        int likeFirst = 0;
        for (int p : chain) {
            int look = now.people.get(p).set() & set;
            looks.add(look);
            likeFirst += look == first ? 1 : 0;
        }
        return all ? looks.size() == chain.size() : likeFirst == 1;
    }

    int reign() {
        List<Integer> chain = chain();
        for (int length = 0; length <= chain.size(); length++) {
            List<Integer> beginning = chain.subList(0, length);
            if (days.stream().allMatch(day -> beginning.stream().anyMatch(p -> now.people.get(p).out(day)))) {
                return length;
            }
        }
        return -1;
    }

    int shownAll() {
        if (pay == 0) {
            return Check.NOT;
        }
        for (int n = 0; n <= 99; n++) {
            int shown = told(6);
            for (int t = now.days; t < now.days + n; t++) {
                int seen = seen(dayOf(t));
                shown |= seen < 0 ? 0 : 1 << seen;
            }
            if ((shown & told(5)) == told(5)) {
                return n;
            }
        }
        return -1;
    }

    int apart(int p, int q) {
        if (none(p) || none(q) || p == q) {
            return Check.UNKNOWN;
        }
        int count = 0;
        for (int k = 0; k < 8; k++) {
            count += now.people.get(p).marks[k] != now.people.get(q).marks[k] ? 1 : 0;
        }
        return count;
    }

    int safe(int n, int q) {
        if (n < 0 || n > 60 || q < 0 || q > 100) {
            return Check.OUTSIDE;
        }
        long odds = 1000000000;
        for (int t = now.days; t < now.days + n; t++) {
            odds = odds * Math.max(0, 100 - q - dayOf(t)[2]) / 100;
        }
        return (int) odds;
    }

    int watch(int d, boolean out) {
        if (d < 0 || d >= days.size()) {
            return Check.UNKNOWN;
        }
        if (watched.size() == 8) {
            return Check.FULL;
        }
        watched.add(new int[] {d, out ? 1 : 0});
        return watched.size();
    }

    private List<Integer> fitting() {
        List<Integer> found = new ArrayList<>();
        for (int p = 0; p < now.people.size(); p++) {
            Person one = now.people.get(p);
            if (watched.stream().allMatch(w -> one.out(days.get(w[0])) == (w[1] == 1))) {
                found.add(p);
            }
        }
        return found;
    }

    int fits() {
        return setOf(fitting());
    }

    int lookOn() {
        List<Integer> fitting = fitting();
        int best = -1;
        int least = Integer.MAX_VALUE;
        for (int d = 0; d < days.size(); d++) {
            int out = 0;
            int in = 0;
            for (int p : fitting) {
                if (now.people.get(p).out(days.get(d))) {
                    out++;
                } else {
                    in++;
                }
            }
            if (out > 0 && in > 0 && Math.max(out, in) < least) {
                least = Math.max(out, in);
                best = d;
            }
        }
        return best;
    }

    int write(int p, int marks) {
        if (none(p)) {
            return Check.UNKNOWN;
        }
        if (marks < 0 || marks > 255) {
            return Check.OUTSIDE;
        }
        if (book.size() == 15) {
            return Check.FULL;
        }
        book.add(new int[] {p, marks});
        return book.size();
    }

    int tear() {
        int torn = watched.size() + book.size();
        watched.clear();
        book.clear();
        return torn;
    }

    int judge() {
        for (int[] entry : book) {
            if (none(entry[0]) || now.people.get(entry[0]).set() != entry[1]) {
                return book.indexOf(entry);
            }
        }
        return -1;
    }

    int seed(int v) {
        if (v < 0) {
            return Check.OUTSIDE;
        }
        int before = (int) seed;
        seed = v;
        return before;
    }

    int keep(int i) {
        if (i != 0 && i != 1) {
            return Check.UNKNOWN;
        }
        images[i] = now.copy();
        imageSeeds[i] = seed;
        past.clear();
        return 1;
    }

    int goBack(int i) {
        if (i != 0 && i != 1) {
            return Check.UNKNOWN;
        }
        if (images[i] == null) {
            return Check.NOT;
        }
        now = images[i].copy();
        seed = imageSeeds[i];
        past.clear();
        return 1;
    }
}
