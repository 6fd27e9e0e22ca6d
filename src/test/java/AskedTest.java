import java.util.ArrayList;
import java.util.List;
import java.util.function.ToIntFunction;

/**
 * "TRIED from now; nothing changes by it", nor by what is only looked up: behind each call that asks, each other call
 * answers as it does without.
 */
public final class AskedTest {
    private record Call(int promise, String name, ToIntFunction<DoubleChain> calling) { }

    private static final Check T = new Check();
    private static final List<Call> ASKS = new ArrayList<>();
    private static final List<Call> OTHERS = new ArrayList<>();

    public static void main(String[] args) {
        lookedUp();
        tried();
        others();
        for (Call other : OTHERS) {
            int due = answer(other, RefusalTest.rich());
            for (Call ask : ASKS) {
                DoubleChain x = RefusalTest.rich();
                answer(ask, x);
                T.promise(ask.promise());
                T.due(other.name() + " behind " + ask.name(), answer(other, x), due);
            }
        }
        T.end();
    }

    private static int answer(Call call, DoubleChain x) {
        return call.calling().applyAsInt(x);
    }

    private static void asks(int promise, String name, ToIntFunction<DoubleChain> calling) {
        ASKS.add(new Call(promise, name, calling));
        other(name, calling);
    }

    private static void other(String name, ToIntFunction<DoubleChain> calling) {
        OTHERS.add(new Call(0, name, calling));
    }

    private static void lookedUp() {
        asks(4, "fault()", DoubleChain::fault);
        for (int what = 0; what < 12; what++) {
            int one = what;
            asks(5, "told(" + one + ")", x -> x.told(one));
        }
        for (int what = 0; what < 7; what++) {
            int one = what;
            for (int p = 0; p < 5; p++) {
                int who = p;
                asks(6, "person(" + who + ", " + one + ")", x -> x.person(who, one));
            }
        }
        for (int what = 0; what < 3; what++) {
            int one = what;
            asks(7, "dayTold(3, " + one + ")", x -> x.dayTold(3, one));
        }
    }

    private static void tried() {
        asks(13, "would(0, 0, 0)", x -> x.would(0, 0, 0));
        asks(14, "firstNobody(60)", x -> x.firstNobody(60));
        asks(15, "send(2, 1)", x -> x.send(2, 1));
        asks(15, "send(6, 5)", x -> x.send(6, 5));
        asks(16, "byMarks(8, 1)", x -> x.byMarks(8, 1));
        asks(17, "diedAt(2)", x -> x.diedAt(2));
        asks(18, "classes(-1)", x -> x.classes(-1));
        asks(18, "classes(0)", x -> x.classes(0));
        asks(18, "classes(2)", x -> x.classes(2));
        asks(19, "tell(false)", x -> x.tell(false));
        asks(19, "tell(true)", x -> x.tell(true));
        asks(20, "reign()", DoubleChain::reign);
        asks(21, "shownAll()", DoubleChain::shownAll);
        asks(22, "apart(0, 1)", x -> x.apart(0, 1));
        asks(23, "safe(60, 5)", x -> x.safe(60, 5));
        asks(25, "fits()", DoubleChain::fits);
        asks(26, "lookOn()", DoubleChain::lookOn);
        asks(29, "judge()", DoubleChain::judge);
    }

    private static void others() {
        other("feed(32)", x -> x.feed(32));
        other("court()", DoubleChain::court);
        other("day(1)", x -> x.day(1));
        other("attempt()", DoubleChain::attempt);
        other("hire()", DoubleChain::hire);
        other("drift(60)", x -> x.drift(60));
        other("undo()", DoubleChain::undo);
        other("undo() twice", x -> x.undo() - x.undo() + x.told(4));
        other("watch(1, true)", x -> x.watch(1, true));
        other("write(0, 0)", x -> x.write(0, 0));
        other("tear()", DoubleChain::tear);
        other("seed(0)", x -> x.seed(0));
        other("keep(0)", x -> x.keep(0));
        other("goBack(0)", x -> x.goBack(0));
        other("goBack(1)", x -> x.goBack(1));
        other("day of an image", x -> x.goBack(0) + 2 * x.told(4));
        other("seed of an image", x -> x.goBack(0) + 2 * x.seed(0));
        other("person of an image", x -> x.goBack(0) + 2 * x.person(1, 0));
    }
}
