/** The promises 23 to 30. */
final class AccountsAndUndoTest {
    private static final int BAD = Check.BAD;
    private static final int NONE = Check.NONE;
    private static final int NOTHING = Check.NOTHING;
    private static final Check C = new Check("AccountsAndUndoTest");

    public static void main(String[] args) {
        promise23();
        promise24();
        promise25();
        promise26();
        promise27();
        promise28();
        everyChange();
        anotherInItsPlace();
        promise29And30();
        C.end();
    }

    private static void promise23() {
        TrousseauFlow x = new TrousseauFlow();
        C.due("no reason", x.reason(false), NOTHING);
        C.due("no detail", x.reason(true), NOTHING);
        x.step(0, 0, 0, false);
        x.need(0, 0);
        x.fault(0, 0);
        x.hands(0);
        x.cancel(0);
        Check.run(x, "x");
        C.due("no refusal by other codes", x.reason(false), NOTHING);
        x.step(1, 0, 0, false);
        C.refused("need(0, 0)", x, x.need(0, 0), 2, 0);
        x.cancel(3);
        C.refused("cancel(3)", x, x.cancel(3), 3, 3);
        x.milestone(0, 77);
        C.due("success keeps it", x.reason(true), 3);
        C.refused("milestone(0, 1)", x, x.milestone(0, 1), 3, 77);
        x.save();
        x.undo();
        C.due("undo keeps it", x.reason(true), 77);
        x.restore();
        C.due("restore keeps it", x.reason(false), 3);
    }

    private static void promise24() {
        TrousseauFlow x = new TrousseauFlow();
        x.step(1, 0, 1, false);
        x.step(2, 0, 1, false);
        x.step(9, 0, 1, false);
        x.step(1, 0, 0, false);
        x.step(1, 3, 0, false);
        x.step(1, 0, 0, false);
        x.need(5, 3);
        x.step(9, 0, 0, false);
        x.step(9, 0, 0, false);
        x.need(7, 6);
        x.step(9, 0, 0, false);
        x.hands(4);
        x.fault(3, 1);
        x.fault(4, 9);
        x.milestone(6, 9);
        x.days(3);
        x.cancel(1);
        x.cancel(3);
        x.days(1);
        C.letters("of all kinds", x, "uxofrorwr");
        x.append('q');
        int[] due = {4, 9, 1, 3, 0, 0, 1, 1, 2, 1, 4, 1, 10, 8, 2, 2, 1, 1, 8};
        for (int what = 0; what < due.length; what++) {
            C.due("account(" + what + ")", x.account(what), due[what]);
        }
        for (int wrong : new int[] {-1, 19, Integer.MAX_VALUE, Integer.MIN_VALUE}) {
            C.due("account(" + wrong + ")", x.account(wrong), BAD);
        }
        TrousseauFlow y = new TrousseauFlow();
        y.hands(1);
        y.step(1, 1, 0, false);
        y.step(9, 0, 0, false);
        y.milestone(1, 1);
        y.fault(0, 1);
        y.days(11);
        C.due("done", y.account(5), 1);
        C.due("runs again", y.account(3), 1);
        y.step(1, 0, 0, false);
        y.milestone(2, 1);
        C.due("a try", y.account(13), 3);
    }

    private static void promise25() {
        TrousseauFlow x = new TrousseauFlow();
        C.due("without steps", x.isBalanced(), 1);
        for (int i = 0; i < 8; i++) {
            x.step(1 + i, 1, i % 4, false);
        }
        x.need(0, 7);
        x.need(7, 3);
        x.hands(4);
        x.fault(2, 2);
        for (int k = 0; k < 20; k++) {
            x.days(1);
            if (k == 6) {
                x.cancel(3);
            }
            C.due("on the day " + k, x.isBalanced(), 1);
        }
        x.undo();
        x.undo();
        C.due("after undo", x.isBalanced(), 1);
        for (int i = 0; i < 4; i++) {
            x.step(9, 0, 0, true);
            x.need(8 + i, 7 + i);
        }
        C.due("with twelve steps", x.isBalanced(), 1);
    }

    private static void promise26() {
        TrousseauFlow x = new TrousseauFlow();
        C.dueNumber("without steps", x.meanDays(), 0.0);
        x.step(9, 0, 0, false);
        C.dueNumber("of one", x.meanDays(), 9.0);
        x.step(2, 0, 0, false);
        C.dueNumber("of two", x.meanDays(), 5.5);
        x.step(5, 0, 1, false);
        x.cancel(1);
        C.dueNumber("of three, one left out", x.meanDays(), 16.0 / 3.0);
    }

    private static void promise27() {
        TrousseauFlow x = new TrousseauFlow();
        C.dueNumber("without tries", x.wrongShare(), 0.0f);
        x.step(1, 3, 0, false);
        x.fault(0, 2);
        x.days(1);
        C.dueNumber("of one", x.wrongShare(), 0.0f);
        x.days(1);
        C.dueNumber("of two", x.wrongShare(), 0.5f);
        x.days(1);
        C.dueNumber("of three", x.wrongShare(), 2.0f / 3.0f);
        x.days(5);
        C.dueNumber("of three, done", x.wrongShare(), 2.0f / 3.0f);
    }

    private static void promise28() {
        TrousseauFlow x = new TrousseauFlow();
        C.due("none", x.undo(), NOTHING);
        for (int i = 0; i < 10; i++) {
            x.step(1, 0, 0, false);
        }
        C.due("eight at most", x.account(18), 8);
        for (int k = 7; k >= 0; k--) {
            C.due("undo, " + k + " left", x.undo(), k);
            C.due("steps, " + k + " left", x.account(1), k + 2);
        }
        C.due("none left", x.undo(), NOTHING);
        C.due("two steps stay", x.account(1), 2);
        C.due("a step again", x.step(3, 0, 0, false), 2);
        C.due("one can be undone", x.account(18), 1);
        x.need(9, 9);
        x.days(0);
        x.need(1, 1);
        C.due("codes are no changes", x.account(18), 1);
        C.due("undo", x.undo(), 0);
        C.due("steps", x.account(1), 2);
        TrousseauFlow y = new TrousseauFlow();
        for (int k = 0; k < 3; k++) {
            for (int i = 0; i < 7; i++) {
                y.days(1);
            }
            for (int i = 0; i < 5; i++) {
                y.undo();
            }
        }
        C.due("round and round", y.account(0), 6);
        C.due("eight, and five less", y.account(18), 3);
    }

    private static final String[] KINDS = {"step", "need", "fault", "hands", "cancel", "milestone", "days", "run",
        "a step of a cancelled branch", "a failing step"};

    /** Each kind of change, and that undo takes back all that it changed. */
    private static void everyChange() {
        for (int kind = 0; kind < KINDS.length; kind++) {
            TrousseauFlow x = new TrousseauFlow();
            x.step(2, 1, 1, false);
            x.step(3, 0, 1, false);
            x.step(1, 0, 0, false);
            x.need(2, 1);
            x.cancel(2);
            x.milestone(0, 2);
            x.days(3);
            String before = Picture.ofChanges(x);
            int count = x.account(18);
            change(x, kind);
            C.due(KINDS[kind] + " counts", x.account(18), count + 1);
            C.due(KINDS[kind] + " changes", Picture.ofChanges(x).equals(before) ? 1 : 0, 0);
            C.due(KINDS[kind] + " undone", x.undo(), count);
            C.dueText(KINDS[kind] + " is undone", Picture.ofChanges(x), before);
            x.hands(2);
            C.due("a change by which nothing is different", x.account(18), count + 1);
        }
    }

    private static void change(TrousseauFlow x, int kind) {
        switch (kind) {
            case 0:
                C.due("step", x.step(9, 2, 1, true), 3);
                break;
            case 1:
                C.due("need", x.need(2, 0), 2);
                break;
            case 2:
                C.due("fault", x.fault(1, 3), 3);
                break;
            case 3:
                C.due("hands", x.hands(3), 2);
                break;
            case 4:
                C.due("cancel", x.cancel(1), 1);
                break;
            case 5:
                C.due("milestone", x.milestone(1, 1), 1);
                break;
            case 6:
                C.due("days", x.days(30), 2);
                break;
            case 7:
                C.due("run", Check.run(x, "cancel 1;day 2;step 2 2 3;mile 3@1"), 4);
                break;
            case 8:
                C.due("step", x.step(1, 1, 2, false), 3);
                break;
            default:
                C.due("run", Check.run(x, "fault 1*1;day 1"), 2);
                break;
        }
    }

    /** A step that takes the place of one that was undone has nothing of it; and restore brings all of it back. */
    private static void anotherInItsPlace() {
        TrousseauFlow x = new TrousseauFlow();
        x.step(1, 0, 0, false);
        x.step(9, 3, 3, true);
        x.need(1, 0);
        x.fault(1, 4);
        x.milestone(1, 40);
        x.days(13);
        x.fault(1, 5);
        String before = Picture.ofChanges(x);
        x.save();
        for (int k = 0; k < 6; k++) {
            x.undo();
        }
        C.due("one step", x.account(1), 1);
        x.step(2, 1, 1, false);
        int[] fresh = {2, 1, 1, 0, 0, 0, 0, 0, NOTHING, 0};
        for (int what = 0; what < fresh.length; what++) {
            C.due("in its place, stepOf(1, " + what + ")", x.stepOf(1, what), fresh[what]);
        }
        C.due("without its milestone", x.milestone(1, 7), 0);
        x.milestone(0, 3);
        x.hands(3);
        x.days(2);
        x.restore();
        C.dueText("all of it is back", Picture.ofChanges(x), before);
        C.refused("its milestone, too", x, x.milestone(1, 1), 3, 40);
        C.due("and not the other's", x.milestone(0, 1), 1);
        TrousseauFlow y = new TrousseauFlow();
        y.step(1, 1, 0, false);
        y.save();
        y.step(9, 3, 3, true);
        y.need(1, 0);
        y.fault(1, 4);
        y.milestone(1, 1);
        y.days(4);
        C.letters("it runs", y, "dr");
        C.due("the step of the milestone", y.milestoneOf(0, 0), 1);
        y.restore();
        y.step(2, 1, 1, false);
        for (int what = 0; what < fresh.length; what++) {
            C.due("after restore, stepOf(1, " + what + ")", y.stepOf(1, what), fresh[what]);
        }
        y.milestone(0, 2);
        y.save();
        y.restore();
        y.undo();
        C.due("the milestone's step", y.milestoneOf(0, 0), 0);
        y.hands(1);
        y.restore();
        C.due("the milestone's step again", y.milestoneOf(0, 0), 0);
        TrousseauFlow z = new TrousseauFlow();
        z.step(1, 0, 0, false);
        z.step(1, 0, 0, false);
        z.save();
        z.milestone(1, 5);
        z.save();
        z.undo();
        z.milestone(0, 6);
        z.restore();
        C.due("the snapshot's milestone", z.milestoneOf(0, 0), 1);
        C.due("its day", z.milestoneOf(0, 1), 5);
    }

    private static void promise29And30() {
        TrousseauFlow x = new TrousseauFlow();
        C.due("no snapshot", x.restore(), NOTHING);
        C.due("save of a new one", x.save(), 0);
        x.step(2, 1, 1, false);
        x.step(3, 0, 1, false);
        x.need(1, 0);
        x.fault(0, 1);
        x.hands(3);
        x.milestone(1, 2);
        x.days(4);
        x.cancel(2);
        String before = Picture.ofChanges(x);
        C.due("save in place of it", x.save(), 4);
        C.due("it is no change", x.account(18), 8);
        C.dueText("it changes nothing", Picture.ofChanges(x), before);
        x.days(30);
        x.cancel(1);
        x.step(1, 0, 2, false);
        x.append('d');
        C.due("restore", x.restore(), 4);
        C.dueText("all is back", Picture.ofChanges(x), before);
        C.due("the text stays", x.account(17), 1);
        C.due("nothing can be undone", x.account(18), 0);
        C.due("undo", x.undo(), NOTHING);
        x.days(1);
        C.due("one change", x.account(18), 1);
        C.due("the snapshot stays", x.restore(), 4);
        C.dueText("all is back again", Picture.ofChanges(x), before);
        x.days(2);
        C.due("save later", x.save(), 6);
        x.undo();
        C.due("undo leaves the snapshot", x.restore(), 6);
        C.due("no step more", x.stepOf(2, 0), NONE);
    }
}
