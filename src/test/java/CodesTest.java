import java.util.function.Supplier;
import java.util.function.ToIntFunction;

/**
 * Each call that returns a code, and that it leaves everything unchanged, except that run empties the text, and that
 * reasons are kept. Two objects go the same way; one of them makes the call besides; then both are asked for all, and
 * go on alike: the line, the text, the undoing back to the oldest mark, and the snapshot.
 */
final class CodesTest {
    private static final int NONE = Check.NONE;
    private static final int BAD = Check.BAD;
    private static final int FULL = Check.FULL;
    private static final int REFUSED = Check.REFUSED;
    private static final int NOTHING = Check.NOTHING;
    private static final int LEAST = Integer.MIN_VALUE;
    private static final int MOST = Integer.MAX_VALUE;
    private static final Check C = new Check("CodesTest");

    public static void main(String[] args) {
        noNumber();
        outOfRange();
        refusedSteps();
        refusedChanges();
        noRoom();
        nothingOfTheKind();
        runs();
        severalCodes();
        codesOfNewObjects();
        C.end();
    }

    /** Steps that are all there can be, with a line, a snapshot, a reason, and more changes than are kept. */
    private static TrousseauFlow rich() {
        TrousseauFlow x = new TrousseauFlow();
        x.step(1, 0, 1, false);
        x.step(2, 0, 1, false);
        x.step(9, 0, 1, false);
        x.step(1, 0, 0, false);
        x.step(1, 3, 2, false);
        x.step(1, 0, 0, false);
        x.need(5, 3);
        x.step(1, 0, 0, true);
        x.step(9, 0, 0, false);
        x.need(7, 6);
        x.step(9, 0, 3, false);
        x.need(7, 8);
        x.hands(4);
        x.fault(3, 1);
        x.fault(4, 9);
        x.milestone(6, 9);
        x.days(3);
        x.save();
        x.milestone(0, 1);
        x.cancel(1);
        x.days(1);
        x.hands(1);
        x.hands(2);
        x.fault(7, 3);
        x.step(5, 1, 0, true);
        x.step(5, 1, 1, true);
        x.milestone(9, 99);
        x.cancel(1);
        x.tell(7);
        return x;
    }

    private static TrousseauFlow richWithText() {
        TrousseauFlow x = rich();
        put(x, "cancel 3;step 3 1 0;day 2");
        return x;
    }

    /** Twelve steps, four milestones, and sixty signs. */
    private static TrousseauFlow full() {
        TrousseauFlow x = new TrousseauFlow();
        for (int i = 0; i < 12; i++) {
            x.step(1 + i % 9, i % 4, i % 3, i % 2 == 0);
        }
        for (int k = 0; k < 4; k++) {
            x.milestone(11 - k, 5 + k);
        }
        x.days(4);
        put(x, "day 1;day 1;day 1;day 1;day 1;day 1;day 1;day 1;day 1;day 12");
        x.tellAll();
        return x;
    }

    private static void put(TrousseauFlow x, String text) {
        for (int k = 0; k < text.length(); k++) {
            x.append(text.charAt(k));
        }
    }

    private static void leaves(Supplier<TrousseauFlow> made, String call, ToIntFunction<TrousseauFlow> on, int code) {
        TrousseauFlow x = made.get();
        TrousseauFlow like = made.get();
        C.due(call, on.applyAsInt(x), code);
        if (code != REFUSED) {
            C.dueText(call + ", the reason", Picture.ofReason(x), Picture.ofReason(like));
        }
        goOnAlike(call, x, like);
    }

    private static void refuses(Supplier<TrousseauFlow> made, String call, ToIntFunction<TrousseauFlow> on, int reason,
            int detail) {
        leaves(made, call, on, REFUSED);
        TrousseauFlow x = made.get();
        C.refused(call, x, on.applyAsInt(x), reason, detail);
    }

    private static void goOnAlike(String call, TrousseauFlow x, TrousseauFlow like) {
        C.dueText(call + ", all", Picture.ofChanges(x), Picture.ofChanges(like));
        C.dueText(call + ", the rest", Picture.ofTheRest(x), Picture.ofTheRest(like));
        C.due(call + ", then run", x.run(), like.run());
        C.dueText(call + ", all then", Picture.ofChanges(x), Picture.ofChanges(like));
        for (int k = 0; k <= 8; k++) {
            C.due(call + ", then undo", x.undo(), like.undo());
            C.dueText(call + ", undone", Picture.ofChanges(x), Picture.ofChanges(like));
        }
        C.due(call + ", then restore", x.restore(), like.restore());
        C.dueText(call + ", restored", Picture.ofChanges(x), Picture.ofChanges(like));
    }

    private static void noNumber() {
        for (int no : new int[] {-1, 11, 12, LEAST, MOST}) {
            String step = "(" + no + ")";
            leaves(CodesTest::richWithText, "need of no step " + step, x -> x.need(no, 0), NONE);
            leaves(CodesTest::richWithText, "need for no step " + step, x -> x.need(7, no), NONE);
            leaves(CodesTest::richWithText, "fault of no step " + step, x -> x.fault(no, 1), NONE);
            leaves(CodesTest::richWithText, "milestone of no step " + step, x -> x.milestone(no, 1), NONE);
            leaves(CodesTest::richWithText, "stepOf no step " + step, x -> x.stepOf(no, 0), NONE);
            leaves(CodesTest::richWithText, "ready of no step " + step, x -> x.ready(no), NONE);
            leaves(CodesTest::richWithText, "doneIn of no step " + step, x -> x.doneIn(no), NONE);
            leaves(CodesTest::richWithText, "chain of no step " + step, x -> x.chain(no), NONE);
            leaves(CodesTest::richWithText, "chainAgain of no step " + step, x -> x.chainAgain(no), NONE);
            leaves(CodesTest::richWithText, "tell of no step " + step, x -> x.tell(no), NONE);
            leaves(CodesTest::richWithText, "ranked at no place " + step, x -> x.ranked(no), NONE);
        }
        for (int no : new int[] {-1, 0, 4, 32, LEAST, MOST}) {
            leaves(CodesTest::richWithText, "cancel(" + no + ")", x -> x.cancel(no), NONE);
        }
        for (int no : new int[] {-1, 3, 4, LEAST, MOST}) {
            leaves(CodesTest::richWithText, "milestoneOf(" + no + ")", x -> x.milestoneOf(no, 0), NONE);
        }
        for (int no : new int[] {-1, 16, 17, LEAST, MOST}) {
            leaves(CodesTest::richWithText, "logged(" + no + ")", x -> x.logged(no, 0), NONE);
        }
        // The line of step 7 is "7=9<6<8".
        for (int no : new int[] {-1, 7, 64, LEAST, MOST}) {
            leaves(CodesTest::richWithText, "character(" + no + ")", x -> x.character(no), NONE);
        }
    }

    private static void outOfRange() {
        for (int no : new int[] {0, 10, -1, LEAST, MOST}) {
            leaves(CodesTest::richWithText, "step of " + no + " days", x -> x.step(no, 0, 0, false), BAD);
            leaves(CodesTest::richWithText, "fault of " + no, x -> x.fault(7, no), BAD);
        }
        for (int no : new int[] {-1, 4, LEAST, MOST}) {
            leaves(CodesTest::richWithText, "step with tries " + no, x -> x.step(1, no, 0, false), BAD);
            leaves(CodesTest::richWithText, "step of branch " + no, x -> x.step(1, 0, no, true), BAD);
            leaves(CodesTest::richWithText, "milestoneOf what " + no, x -> x.milestoneOf(0, no), BAD);
        }
        for (int no : new int[] {0, 5, -1, LEAST, MOST}) {
            leaves(CodesTest::richWithText, "hands(" + no + ")", x -> x.hands(no), BAD);
        }
        for (int no : new int[] {0, 1000, -1, LEAST, MOST}) {
            leaves(CodesTest::richWithText, "milestone on " + no, x -> x.milestone(7, no), BAD);
        }
        for (int no : new int[] {0, 31, -1, LEAST, MOST}) {
            leaves(CodesTest::richWithText, "days(" + no + ")", x -> x.days(no), BAD);
        }
        for (int no : new int[] {-1, 10, LEAST, MOST}) {
            leaves(CodesTest::richWithText, "stepOf what " + no, x -> x.stepOf(0, no), BAD);
        }
        for (int no : new int[] {-1, 3, LEAST, MOST}) {
            leaves(CodesTest::richWithText, "logged what " + no, x -> x.logged(0, no), BAD);
        }
        for (int no : new int[] {31, 127, 128, 256 + 65, 65536 + 65, -1, LEAST, MOST}) {
            leaves(CodesTest::richWithText, "append(" + no + ")", x -> x.append(no), BAD);
        }
        for (int no : new int[] {-1, 19, LEAST, MOST}) {
            leaves(CodesTest::richWithText, "account(" + no + ")", x -> x.account(no), BAD);
        }
    }

    /** The reasons 2 to 5, as need and fault name them, for steps that are all there can be. */
    private static void refusedSteps() {
        C.letters("of the rich one", rich(), "uxofrodwrwo");
        Supplier<TrousseauFlow> made = CodesTest::richWithText;
        int[] how = {4, 5, 6, 7, 1, 6, 3, 0, 1, 0, 6};
        for (int i = 0; i < how.length; i++) {
            int step = i;
            refuses(made, "need(" + i + ", " + i + ")", x -> x.need(step, step), 2, i);
            if (how[i] != 0) {
                refuses(made, "need of one that is " + how[i], x -> x.need(step, 9), 5, how[i]);
            }
            if (how[i] > 2) {
                refuses(made, "fault of one that is " + how[i], x -> x.fault(step, 1), 5, how[i]);
            }
        }
        refuses(made, "need, so already", x -> x.need(7, 6), 3, 6);
        Supplier<TrousseauFlow> over = CodesTest::needsOverOthers;
        refuses(over, "need, needed at once", x -> x.need(1, 0), 4, 0);
        refuses(over, "need, needed over another", x -> x.need(2, 0), 4, 0);
        refuses(over, "need, needed over two", x -> x.need(3, 0), 4, 0);
        Supplier<TrousseauFlow> resting = CodesTest::oneRests;
        refuses(resting, "need of one that rests", x -> x.need(0, 1), 5, 2);
        refuses(resting, "need of one that rests, of itself", x -> x.need(0, 0), 2, 0);
        C.due("fault of one that rests", oneRests().fault(0, 1), 1);
    }

    private static TrousseauFlow needsOverOthers() {
        TrousseauFlow x = new TrousseauFlow();
        for (int i = 0; i < 4; i++) {
            x.step(1 + i, 0, 0, i % 2 == 0);
        }
        x.need(0, 1);
        x.need(1, 2);
        x.need(2, 3);
        return x;
    }

    /** The step 0 rests, as the one hand that there is has taken the step 2. */
    private static TrousseauFlow oneRests() {
        TrousseauFlow x = new TrousseauFlow();
        x.hands(1);
        x.step(1, 2, 0, false);
        x.step(1, 0, 0, false);
        x.step(9, 0, 0, false);
        x.fault(0, 1);
        x.days(1);
        x.milestone(2, 1);
        x.days(1);
        return x;
    }

    private static void refusedChanges() {
        C.letters("as one rests", oneRests(), "zwr");
        Supplier<TrousseauFlow> made = CodesTest::richWithText;
        refuses(made, "cancel by a call, so already", x -> x.cancel(1), 3, 1);
        refuses(made, "cancel by a call, so already again", x -> Math.max(x.cancel(1), x.cancel(1)), 3, 1);
        refuses(made, "milestone, so already", x -> x.milestone(6, 8), 3, 9);
        refuses(made, "milestone on the same day, so already", x -> x.milestone(9, 99), 3, 99);
        Supplier<TrousseauFlow> failed = () -> {
            TrousseauFlow x = new TrousseauFlow();
            x.step(1, 0, 3, false);
            x.step(1, 0, 3, false);
            x.fault(0, 1);
            x.days(2);
            return x;
        };
        refuses(failed, "cancel of a branch that failed", x -> x.cancel(3), 3, 3);
    }

    private static void noRoom() {
        Supplier<TrousseauFlow> made = CodesTest::full;
        refuses(made, "the thirteenth step", x -> x.step(1, 0, 0, false), 1, 12);
        refuses(made, "the thirteenth step, of all most", x -> x.step(9, 3, 3, true), 1, 12);
        refuses(made, "the fifth milestone", x -> x.milestone(0, 1), 1, 4);
        refuses(made, "the fifth milestone, so already", x -> x.milestone(8, 999), 3, 8);
        leaves(made, "the sign 61", x -> x.append('a'), FULL);
        leaves(made, "the sign 61, a blank", x -> x.append(32), FULL);
        leaves(made, "the sign 61, the last one", x -> x.append(126), FULL);
        leaves(made, "the sign 61, no sign", x -> x.append(127), BAD);
        leaves(made, "the sign 61, no sign either", x -> x.append(31), BAD);
    }

    private static void nothingOfTheKind() {
        Supplier<TrousseauFlow> noMark = () -> {
            TrousseauFlow x = richWithText();
            for (int k = 0; k < 8; k++) {
                x.undo();
            }
            return x;
        };
        leaves(noMark, "undo without a mark", TrousseauFlow::undo, NOTHING);
        Supplier<TrousseauFlow> restored = () -> {
            TrousseauFlow x = richWithText();
            x.restore();
            return x;
        };
        leaves(restored, "undo after restore", TrousseauFlow::undo, NOTHING);
        leaves(CodesTest::full, "restore without a snapshot", TrousseauFlow::restore, NOTHING);
        leaves(CodesTest::full, "reason without one", x -> x.reason(false), NOTHING);
        leaves(CodesTest::full, "detail without one", x -> x.reason(true), NOTHING);
        leaves(CodesTest::full, "stepOf, never done", x -> x.stepOf(5, 8), NOTHING);
        leaves(CodesTest::richWithText, "milestoneOf, not done", x -> x.milestoneOf(1, 2), NOTHING);
        leaves(CodesTest::richWithText, "doneIn, never", x -> x.doneIn(2), NOTHING);
    }

    /** A text that is wrong, or whose orders cannot be carried out, is emptied, and all else is as it was. */
    private static void runs() {
        String[] wrong = {"", " ", "day 1;", "day 1;hands", "cancel 3;step 1 0 0;mile 7@1;day 9;x", "day 123"};
        int[] at = {0, 0, 6, 11, 35, 6};
        for (int k = 0; k < wrong.length; k++) {
            String text = wrong[k];
            leaves(CodesTest::rich, "run \"" + text + "\"", x -> Check.run(x, text), -1000 - at[k]);
        }
        refusedRun("step 1 0 0;step 1 0 0", 1);
        refusedRun("hands 3;cancel 3;cancel 2;need 7 9;mile 7@1;day 9;hands 0", 6);
        refusedRun("step 9 3 3?;need 11 10;fault 11*9;day 30;day 30;day 0", 5);
        refusedRun("cancel 1", 0);
        refusedRun("day 1;day 31", 1);
        refusedRun("mile 7@999;mile 9@1", 1);
        refusedRun("mile 7@999;mile 9@0", 1);
        refusedRun("fault 7*1;fault 6*1", 1);
        refusedRun("need 7 9;need 9 7", 1);
        refusedRun("need 7 9;need 7 9", 1);
        refusedRun("need 7 12", 0);
        TrousseauFlow x = rich();
        C.due("the text is empty", Check.run(x, "day 1;x"), -1006);
        C.due("and nothing of it is left", Check.run(x, ""), -1000);
        C.due("nor of one that is refused", Check.run(x, "day 1;hands 9"), REFUSED);
        C.due("but the next one", Check.run(x, "day 1"), 1);
    }

    private static void refusedRun(String text, int order) {
        refuses(CodesTest::rich, "run \"" + text + "\"", x -> Check.run(x, text), 6, order);
    }

    /** The code that is listed first, and the reason that is named first. */
    private static void severalCodes() {
        Supplier<TrousseauFlow> made = CodesTest::full;
        leaves(made, "step, BAD ahead of 1", x -> x.step(10, 0, 0, false), BAD);
        leaves(made, "need, NONE ahead of 2", x -> x.need(12, 12), NONE);
        leaves(made, "need, NONE ahead of 5", x -> x.need(9, 12), NONE);
        leaves(made, "fault, NONE ahead of BAD", x -> x.fault(12, 10), NONE);
        leaves(made, "milestone, NONE ahead of BAD", x -> x.milestone(12, 0), NONE);
        leaves(made, "milestone, NONE ahead of 1", x -> x.milestone(12, 1), NONE);
        leaves(made, "milestone, BAD ahead of 1", x -> x.milestone(0, 0), BAD);
        leaves(made, "milestone, BAD ahead of 3", x -> x.milestone(11, 1000), BAD);
        leaves(made, "stepOf, NONE ahead of BAD", x -> x.stepOf(12, 10), NONE);
        leaves(made, "milestoneOf, NONE ahead of BAD", x -> x.milestoneOf(4, 4), NONE);
        leaves(made, "logged, NONE ahead of BAD", x -> x.logged(16, 3), NONE);
        leaves(CodesTest::rich, "fault, BAD ahead of 5", x -> x.fault(3, 0), BAD);
        leaves(CodesTest::rich, "run, wrong ahead of 6", x -> Check.run(x, "hands 9;day"), -1011);
        refuses(CodesTest::rich, "need, 2 ahead of 5", x -> x.need(8, 8), 2, 8);
        Supplier<TrousseauFlow> goes = () -> {
            TrousseauFlow x = new TrousseauFlow();
            x.step(1, 0, 0, false);
            x.step(5, 0, 0, false);
            x.step(1, 0, 0, false);
            x.need(1, 0);
            x.need(2, 1);
            x.days(2);
            return x;
        };
        refuses(goes, "need, 5 ahead of 3", x -> x.need(1, 0), 5, 1);
        refuses(goes, "need, 5 ahead of 4", x -> x.need(1, 2), 5, 1);
        refuses(goes, "need of one that is done, 5 ahead of 4", x -> x.need(0, 2), 5, 3);
    }

    private static void codesOfNewObjects() {
        Supplier<TrousseauFlow> made = TrousseauFlow::new;
        leaves(made, "new: need", x -> x.need(0, 0), NONE);
        leaves(made, "new: fault", x -> x.fault(0, 1), NONE);
        leaves(made, "new: milestone", x -> x.milestone(0, 1), NONE);
        leaves(made, "new: stepOf", x -> x.stepOf(0, 10), NONE);
        leaves(made, "new: ready", x -> x.ready(0), NONE);
        leaves(made, "new: milestoneOf", x -> x.milestoneOf(0, 4), NONE);
        leaves(made, "new: doneIn", x -> x.doneIn(0), NONE);
        leaves(made, "new: chain", x -> x.chain(0), NONE);
        leaves(made, "new: chainAgain", x -> x.chainAgain(0), NONE);
        leaves(made, "new: logged", x -> x.logged(0, 3), NONE);
        leaves(made, "new: ranked", x -> x.ranked(0), NONE);
        leaves(made, "new: run", TrousseauFlow::run, -1000);
        leaves(made, "new: tell", x -> x.tell(0), NONE);
        leaves(made, "new: character", x -> x.character(0), NONE);
        leaves(made, "new: reason", x -> x.reason(false), NOTHING);
        leaves(made, "new: detail", x -> x.reason(true), NOTHING);
        leaves(made, "new: undo", TrousseauFlow::undo, NOTHING);
        leaves(made, "new: restore", TrousseauFlow::restore, NOTHING);
    }
}
