import java.util.function.IntFunction;
import java.util.function.Supplier;
import java.util.function.ToIntBiFunction;

/** Each number that a call takes: the code just below and just above its range, and none at its two ends. */
final class RangesTest {
    private static final int NONE = Check.NONE;
    private static final int BAD = Check.BAD;
    private static final Check C = new Check("RangesTest");

    public static void main(String[] args) {
        changes();
        questionsOfSteps();
        questionsOfPlaces();
        growing();
        C.end();
    }

    /** Three steps, two milestones, four events, and a line of three signs. */
    private static TrousseauFlow three() {
        TrousseauFlow x = new TrousseauFlow();
        x.step(1, 0, 1, false);
        x.step(2, 0, 2, true);
        x.step(3, 0, 0, false);
        x.milestone(2, 5);
        x.milestone(1, 6);
        x.hands(3);
        x.days(2);
        x.tellAll();
        return x;
    }

    private static void range(String call, Supplier<TrousseauFlow> made, ToIntBiFunction<TrousseauFlow, Integer> on,
            int least, int most, int code) {
        for (int no : new int[] {least - 1, most + 1, Integer.MIN_VALUE, Integer.MAX_VALUE, -1000, 1 << 16}) {
            C.due(call + " of " + no, on.applyAsInt(made.get(), no), code);
        }
        for (int number = least; number <= most; number++) {
            int answer = on.applyAsInt(made.get(), number);
            C.due(call + " of " + number + " is a code", answer == NONE || answer == BAD ? 1 : 0, 0);
        }
    }

    private static void changes() {
        Supplier<TrousseauFlow> made = RangesTest::three;
        Supplier<TrousseauFlow> waiting = () -> {
            TrousseauFlow x = new TrousseauFlow();
            x.step(1, 0, 0, false);
            x.step(1, 0, 0, false);
            x.step(1, 0, 0, false);
            return x;
        };
        range("step, days", made, (x, n) -> x.step(n, 0, 0, false), 1, 9, BAD);
        range("step, tries more", made, (x, n) -> x.step(1, n, 0, false), 0, 3, BAD);
        range("step, branch", made, (x, n) -> x.step(1, 0, n, false), 0, 3, BAD);
        range("need, step", waiting, (x, n) -> x.need(n, 0), 0, 2, NONE);
        range("need, other", waiting, (x, n) -> x.need(0, n), 0, 2, NONE);
        range("fault, step", waiting, (x, n) -> x.fault(n, 1), 0, 2, NONE);
        range("fault, many", waiting, (x, n) -> x.fault(2, n), 1, 9, BAD);
        range("hands", made, TrousseauFlow::hands, 1, 4, BAD);
        range("cancel", made, TrousseauFlow::cancel, 1, 3, NONE);
        range("milestone, step", waiting, (x, n) -> x.milestone(n, 1), 0, 2, NONE);
        range("milestone, day", waiting, (x, n) -> x.milestone(0, n), 1, 999, BAD);
        range("days", made, TrousseauFlow::days, 1, 30, BAD);
        range("append", made, TrousseauFlow::append, 32, 126, BAD);
    }

    private static void questionsOfSteps() {
        Supplier<TrousseauFlow> made = RangesTest::three;
        range("stepOf, step", made, (x, n) -> x.stepOf(n, 0), 0, 2, NONE);
        range("stepOf, what", made, (x, n) -> x.stepOf(1, n), 0, 9, BAD);
        range("ready", made, TrousseauFlow::ready, 0, 2, NONE);
        range("doneIn", made, TrousseauFlow::doneIn, 0, 2, NONE);
        range("chain", made, TrousseauFlow::chain, 0, 2, NONE);
        range("chainAgain", made, TrousseauFlow::chainAgain, 0, 2, NONE);
        range("tell", made, TrousseauFlow::tell, 0, 2, NONE);
    }

    private static void questionsOfPlaces() {
        Supplier<TrousseauFlow> made = RangesTest::three;
        range("milestoneOf, place", made, (x, n) -> x.milestoneOf(n, 0), 0, 1, NONE);
        range("milestoneOf, what", made, (x, n) -> x.milestoneOf(0, n), 0, 3, BAD);
        range("logged, place", made, (x, n) -> x.logged(n, 0), 0, 3, NONE);
        range("logged, what", made, (x, n) -> x.logged(0, n), 0, 2, BAD);
        range("ranked", made, TrousseauFlow::ranked, 0, 2, NONE);
        range("character", made, TrousseauFlow::character, 0, 2, NONE);
        range("account", made, TrousseauFlow::account, 0, 18, BAD);
    }

    /** The ranges of steps and milestones as there are more of them, up to as many as there can be. */
    private static void growing() {
        for (int count = 0; count <= 12; count++) {
            int steps = count;
            Supplier<TrousseauFlow> made = () -> withSteps(steps);
            C.due("steps", made.get().account(1), count);
            none("stepOf of " + count, made, n -> x -> x.stepOf(n, 0), count);
            none("ready of " + count, made, n -> x -> x.ready(n), count);
            none("doneIn of " + count, made, n -> x -> x.doneIn(n), count);
            none("chain of " + count, made, n -> x -> x.chain(n), count);
            none("chainAgain of " + count, made, n -> x -> x.chainAgain(n), count);
            none("ranked of " + count, made, n -> x -> x.ranked(n), count);
            none("tell of " + count, made, n -> x -> x.tell(n), count);
            none("fault of " + count, made, n -> x -> x.fault(n, 1), count);
            none("milestone of " + count, made, n -> x -> x.milestone(n, 1), count);
            none("character of " + count, made, n -> x -> {
                x.tellAll();
                return x.character(n);
            }, count);
        }
        for (int count = 0; count <= 4; count++) {
            int miles = count;
            none("milestoneOf of " + count, () -> {
                TrousseauFlow x = withSteps(12);
                for (int k = 0; k < miles; k++) {
                    C.due("milestone " + k, x.milestone(11 - k, 1 + k), k);
                }
                return x;
            }, n -> x -> x.milestoneOf(n, 0), count);
        }
    }

    private interface Call {
        int on(TrousseauFlow x);
    }

    private static void none(String call, Supplier<TrousseauFlow> made, IntFunction<Call> at, int count) {
        for (int number = -1; number <= count; number++) {
            int answer = at.apply(number).on(made.get());
            boolean isThere = number >= 0 && number < count;
            C.due(call + ", " + number, answer == NONE ? 0 : 1, isThere ? 1 : 0);
        }
    }

    private static TrousseauFlow withSteps(int count) {
        TrousseauFlow x = new TrousseauFlow();
        for (int i = 0; i < count; i++) {
            x.step(1 + i % 9, 0, 0, false);
        }
        return x;
    }
}
