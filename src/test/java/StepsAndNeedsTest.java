/** The promises 1 to 12. */
final class StepsAndNeedsTest {
    private static final int NONE = Check.NONE;
    private static final int BAD = Check.BAD;
    private static final int NOTHING = Check.NOTHING;
    private static final int[] WRONG_STEPS = {-1, 2, 12, Integer.MIN_VALUE, Integer.MAX_VALUE};
    private static final Check C = new Check("StepsAndNeedsTest");

    public static void main(String[] args) {
        promise1();
        promise2();
        promise3();
        promise4();
        promise5();
        promise6();
        promise7();
        promise8();
        promise9();
        promise10();
        promise11();
        promise12();
        C.end();
    }

    private static TrousseauFlow twoSteps() {
        TrousseauFlow x = new TrousseauFlow();
        x.step(2, 1, 0, false);
        x.step(3, 0, 0, false);
        return x;
    }

    private static void promise1() {
        TrousseauFlow x = new TrousseauFlow();
        for (int what = 0; what <= 18; what++) {
            C.due("new: account(" + what + ")", x.account(what), what == 10 ? 2 : 0);
        }
        C.due("new: reason", x.reason(false), NOTHING);
        C.due("new: detail", x.reason(true), NOTHING);
        C.due("new: character(0)", x.character(0), NONE);
        C.due("new: tellAll", x.tellAll(), 0);
        C.due("new: logged", x.logged(0, 0), NONE);
        C.due("new: ranked", x.ranked(0), NONE);
        C.due("new: stepOf", x.stepOf(0, 0), NONE);
        C.due("new: milestoneOf", x.milestoneOf(0, 0), NONE);
        C.due("new: undo", x.undo(), NOTHING);
        C.due("new: restore", x.restore(), NOTHING);
        C.due("new: days", x.days(3), 0);
        C.due("new: day then", x.account(0), 3);
    }

    private static void promise2() {
        TrousseauFlow x = new TrousseauFlow();
        int[][] wrong = {{0, 0, 0}, {10, 0, 0}, {-1, 0, 0}, {1, -1, 0}, {1, 4, 0}, {1, 0, -1}, {1, 0, 4},
            {Integer.MIN_VALUE, 0, 0}, {1, Integer.MAX_VALUE, 0}, {1, 0, Integer.MAX_VALUE}};
        for (int[] w : wrong) {
            C.due("step(" + w[0] + ", " + w[1] + ", " + w[2] + ")", x.step(w[0], w[1], w[2], true), BAD);
        }
        C.due("no step then", x.account(1), 0);
        C.due("no change then", x.account(18), 0);
        C.due("step(9, 3, 3, true)", x.step(9, 3, 3, true), 0);
        C.due("step(1, 0, 0, false)", x.step(1, 0, 0, false), 1);
        C.dueText("line 0", Check.line(x, 0), "0=9*3?/3");
        C.dueText("line 1", Check.line(x, 1), "1=1");
        for (int i = 2; i < 12; i++) {
            C.due("step " + i, x.step(1, 0, 0, false), i);
        }
        C.due("out of range ahead of no room", x.step(0, 0, 0, false), BAD);
        C.due("BAD is no reason", x.reason(false), NOTHING);
        C.refused("the step 12", x, x.step(1, 0, 0, false), 1, 12);
        C.due("steps then", x.account(1), 12);
        TrousseauFlow y = new TrousseauFlow();
        y.days(4);
        y.cancel(2);
        C.due("a step of a cancelled branch", y.step(3, 0, 2, false), 0);
        C.letters("of a cancelled branch", y, "o");
        C.dueText("its event", Check.event(y, 0), "5 0 4");
        C.due("a step of another branch", y.step(3, 0, 1, false), 1);
        C.letters("of another branch", y, "ow");
    }

    private static void promise3() {
        TrousseauFlow x = twoSteps();
        x.step(1, 0, 0, true);
        C.due("need(1, 0)", x.need(1, 0), 1);
        C.due("need(2, 1)", x.need(2, 1), 1);
        C.due("need(2, 0)", x.need(2, 0), 2);
        C.due("the set", x.stepOf(2, 9), 3);
        for (int wrong : new int[] {-1, 3, 12, Integer.MIN_VALUE, Integer.MAX_VALUE}) {
            C.due("need(" + wrong + ", 0)", x.need(wrong, 0), NONE);
            C.due("need(0, " + wrong + ")", x.need(0, wrong), NONE);
            C.due("need of itself, none", x.need(wrong, wrong), NONE);
        }
        C.refused("itself", x, x.need(1, 1), 2, 1);
        C.refused("so already", x, x.need(2, 1), 3, 1);
        C.refused("needed at once", x, x.need(0, 1), 4, 1);
        C.refused("needed over others", x, x.need(0, 2), 4, 2);
        C.due("nothing changed", x.stepOf(0, 9), 0);
        C.due("changes", x.account(18), 6);
        x.days(1);
        C.letters("after a day", x, "rww");
        C.refused("itself ahead of how it is", x, x.need(0, 0), 2, 0);
        C.refused("how it is ahead of needed", x, x.need(0, 1), 5, 1);
        x.days(2);
        C.letters("after three days", x, "drr");
        C.refused("how it is ahead of so already", x, x.need(1, 0), 5, 1);
        C.refused("done", x, x.need(0, 1), 5, 3);
        needsOfTwelve();
    }

    private static void needsOfTwelve() {
        TrousseauFlow up = new TrousseauFlow();
        TrousseauFlow down = new TrousseauFlow();
        for (int i = 0; i < 12; i++) {
            up.step(1, 0, 0, false);
            down.step(1, 0, 0, true);
        }
        for (int i = 0; i < 11; i++) {
            C.due("up", up.need(i + 1, i), 1);
            C.due("down", down.need(i, i + 1), 1);
        }
        for (int i = 1; i < 12; i++) {
            C.refused("up, over " + i, up, up.need(0, i), 4, i);
            C.refused("down, over " + i, down, down.need(11, 11 - i), 4, 11 - i);
        }
        C.due("not over the other way", up.need(11, 0), 2);
        C.due("all that a step may need, 1", down.need(0, 11), 2);
    }

    private static void promise4() {
        TrousseauFlow x = twoSteps();
        C.due("fault(0, 9)", x.fault(0, 9), 9);
        C.due("fault(0, 1)", x.fault(0, 1), 10);
        C.due("fault(1, 1)", x.fault(1, 1), 1);
        for (int wrong : WRONG_STEPS) {
            C.due("fault(" + wrong + ", 0)", x.fault(wrong, 0), NONE);
        }
        for (int wrong : new int[] {0, 10, -1, Integer.MAX_VALUE, Integer.MIN_VALUE}) {
            C.due("fault(0, " + wrong + ")", x.fault(0, wrong), BAD);
        }
        C.due("kept", x.stepOf(0, 7), 10);
        x.days(1);
        C.due("as it runs", x.fault(0, 2), 12);
        x.days(2);
        C.due("one taken", x.stepOf(0, 7), 11);
        x.days(1);
        C.letters("failed both", x, "rf");
        C.due("the number ahead of how it is", x.fault(1, 0), BAD);
        C.refused("failed", x, x.fault(1, 1), 5, 7);
        x.hands(1);
        x.days(1);
        C.letters("failed", x, "ff");
        C.due("more than it may have stay", x.stepOf(0, 7), 10);
        TrousseauFlow y = new TrousseauFlow();
        y.step(1, 1, 0, false);
        y.step(1, 0, 0, false);
        y.milestone(1, 5);
        y.hands(1);
        y.fault(0, 1);
        y.days(3);
        C.letters("tries again at once", y, "rd");
        C.refused("done", y, y.fault(1, 1), 5, 3);
    }

    private static void promise5() {
        TrousseauFlow x = new TrousseauFlow();
        for (int wrong : new int[] {0, 5, -1, Integer.MAX_VALUE, Integer.MIN_VALUE}) {
            C.due("hands(" + wrong + ")", x.hands(wrong), BAD);
        }
        C.due("hands(4)", x.hands(4), 2);
        C.due("hands(4) again", x.hands(4), 4);
        C.due("both are changes", x.account(18), 2);
        for (int i = 0; i < 6; i++) {
            x.step(2 + i, 0, 0, false);
        }
        x.days(1);
        C.letters("four hands", x, "rrrrww");
        C.due("hands(1)", x.hands(1), 4);
        x.days(1);
        C.letters("those that run go on", x, "rrrrww");
        x.days(3);
        C.letters("still one", x, "dddrww");
        x.days(1);
        C.letters("one begins again", x, "ddddrw");
        C.due("hands(3)", x.hands(3), 1);
        C.due("account(10)", x.account(10), 3);
    }

    private static void promise6() {
        TrousseauFlow x = new TrousseauFlow();
        for (int wrong : new int[] {0, 4, -1, 31, 32, 33, Integer.MAX_VALUE, Integer.MIN_VALUE}) {
            C.due("cancel(" + wrong + ")", x.cancel(wrong), NONE);
        }
        x.step(1, 0, 2, false);
        x.step(2, 0, 2, false);
        x.step(9, 0, 2, false);
        x.step(1, 0, 1, false);
        x.step(9, 0, 2, false);
        x.hands(3);
        x.days(4);
        C.letters("ahead of it", x, "ddrdr");
        C.due("cancel(2)", x.cancel(2), 2);
        C.letters("behind it", x, "uuodo");
        C.dueText("lowest left out first", Check.event(x, 1), "5 2 4");
        C.dueText("highest left out last", Check.event(x, 0), "5 4 4");
        C.due("days to go, 1", x.stepOf(0, 5), 1);
        C.due("days to go, 2", x.stepOf(1, 5), 1);
        C.due("left out has none to go", x.stepOf(2, 5), 0);
        C.due("the set", x.account(12), 4);
        C.refused("so already", x, x.cancel(2), 3, 2);
        C.due("cancel(1)", x.cancel(1), 1);
        C.due("cancel(3), without steps", x.cancel(3), 0);
        C.due("the set of all", x.account(12), 14);
        x.days(1);
        C.letters("one of each branch", x, "uxoxo");
        x.days(1);
        C.letters("all", x, "xxoxo");
        TrousseauFlow y = new TrousseauFlow();
        for (int i = 0; i < 12; i++) {
            y.step(1, 0, i % 4, false);
        }
        y.hands(4);
        y.days(4);
        C.letters("twelve done", y, "dddddddddddd");
        C.due("cancel(3) of three", y.cancel(3), 3);
        y.days(1);
        C.letters("the branch 3", y, "dddudddudddx");
        C.due("cancel(2) of three", y.cancel(2), 3);
        C.due("cancel(1) of three", y.cancel(1), 3);
        y.days(1);
        C.letters("all branches", y, "duuuduuxdxxx");
        C.dueText("by the branches, 3", Check.event(y, 0), "4 7 5");
        C.dueText("by the branches, 2", Check.event(y, 1), "4 10 5");
        C.dueText("by the branches, 1", Check.event(y, 2), "4 9 5");
    }

    private static void promise7() {
        TrousseauFlow x = new TrousseauFlow();
        for (int i = 0; i < 6; i++) {
            x.step(1, 0, 0, false);
        }
        C.due("no such step, day out of range", x.milestone(6, 0), NONE);
        C.due("no such step", x.milestone(-1, 5), NONE);
        C.due("no such step, most", x.milestone(Integer.MAX_VALUE, 5), NONE);
        for (int wrong : new int[] {0, 1000, -1, Integer.MAX_VALUE, Integer.MIN_VALUE}) {
            C.due("milestone(0, " + wrong + ")", x.milestone(0, wrong), BAD);
        }
        C.due("milestone(5, 999)", x.milestone(5, 999), 0);
        C.due("milestone(4, 1)", x.milestone(4, 1), 1);
        C.due("the day ahead of so already", x.milestone(5, 1000), BAD);
        C.refused("so already", x, x.milestone(5, 7), 3, 999);
        C.due("milestone(3, 30)", x.milestone(3, 30), 2);
        C.due("milestone(2, 30)", x.milestone(2, 30), 3);
        C.refused("so already ahead of no room", x, x.milestone(4, 30), 3, 1);
        C.refused("no room", x, x.milestone(1, 30), 1, 4);
        C.due("milestones", x.account(11), 4);
        x.hands(1);
        x.days(1);
        C.letters("the earliest day begins", x, "wwwwrw");
        x.days(1);
        C.letters("of several the lowest", x, "wwrwdw");
        x.days(2);
        C.letters("then the last", x, "wwdddr");
        x.days(1);
        C.letters("then those without", x, "rwdddd");
    }

    private static void promise8() {
        TrousseauFlow x = twoSteps();
        for (int wrong : new int[] {0, 31, -1, Integer.MAX_VALUE, Integer.MIN_VALUE}) {
            C.due("days(" + wrong + ")", x.days(wrong), BAD);
        }
        C.due("no day then", x.account(0), 0);
        C.due("days(1)", x.days(1), 0);
        C.letters("they begin on the day 0", x, "rr");
        C.dueText("first event", Check.event(x, 1), "0 0 0");
        C.dueText("second event", Check.event(x, 0), "0 1 0");
        C.due("days(2)", x.days(2), 1);
        C.due("done on the day 2", x.stepOf(0, 8), 2);
        C.due("days(30)", x.days(30), 1);
        C.due("day", x.account(0), 33);
        TrousseauFlow y = new TrousseauFlow();
        y.hands(4);
        y.step(1, 0, 1, false);
        y.step(1, 0, 1, false);
        y.fault(1, 1);
        C.due("done and to be undone on one day", y.days(2), 1);
        C.letters("undone on that day", y, "xf");
    }

    private static void promise9() {
        TrousseauFlow x = twoSteps();
        x.step(5, 3, 2, true);
        x.need(2, 0);
        x.need(2, 1);
        int[] due = {5, 3, 2, 1, 0, 0, 0, 0, NOTHING, 3};
        for (int what = 0; what < due.length; what++) {
            C.due("stepOf(2, " + what + ")", x.stepOf(2, what), due[what]);
        }
        C.due("stepOf(0, 3)", x.stepOf(0, 3), 0);
        C.due("stepOf(2, -1)", x.stepOf(2, -1), BAD);
        C.due("stepOf(2, 10)", x.stepOf(2, 10), BAD);
        C.due("stepOf(3, 10)", x.stepOf(3, 10), NONE);
        C.due("stepOf(-1, 0)", x.stepOf(-1, 0), NONE);
        C.due("stepOf(least, 0)", x.stepOf(Integer.MIN_VALUE, 0), NONE);
        x.fault(0, 1);
        x.days(2);
        C.due("runs", x.stepOf(0, 4), 1);
        C.due("to go", x.stepOf(0, 5), 1);
        C.due("begun", x.stepOf(0, 6), 1);
        C.due("next wrong", x.stepOf(0, 7), 1);
        x.days(1);
        C.due("runs again, all its days to go", x.stepOf(0, 5), 2);
        C.due("begun twice", x.stepOf(0, 6), 2);
        C.due("none wrong", x.stepOf(0, 7), 0);
        x.days(2);
        C.due("done", x.stepOf(0, 4), 3);
        C.due("none to go", x.stepOf(0, 5), 0);
        C.due("done on", x.stepOf(0, 8), 4);
        TrousseauFlow y = new TrousseauFlow();
        y.step(9, 0, 1, false);
        y.days(10);
        y.cancel(1);
        C.due("half, rounded up", y.stepOf(0, 5), 5);
        y.days(4);
        C.due("one to go", y.stepOf(0, 5), 1);
        y.days(1);
        C.due("undone", y.stepOf(0, 4), 5);
        C.due("still its day", y.stepOf(0, 8), 9);
        TrousseauFlow z = new TrousseauFlow();
        z.step(1, 2, 0, false);
        z.step(1, 0, 0, false);
        z.milestone(1, 9);
        z.fault(0, 1);
        z.hands(1);
        z.days(2);
        C.letters("ahead", z, "rd");
        z.step(9, 0, 0, false);
        z.milestone(2, 9);
        z.days(1);
        C.letters("rests as another goes ahead", z, "zdr");
        C.due("rests, none to go", z.stepOf(0, 5), 0);
    }

    private static void promise10() {
        TrousseauFlow x = twoSteps();
        x.step(1, 0, 0, false);
        x.step(1, 0, 0, true);
        for (int i = 0; i < 4; i++) {
            C.due("needs none, " + i, x.ready(i), 1);
        }
        C.due("ready(4)", x.ready(4), NONE);
        C.due("ready(-1)", x.ready(-1), NONE);
        C.due("ready(most)", x.ready(Integer.MAX_VALUE), NONE);
        x.need(2, 0);
        x.need(2, 1);
        x.need(3, 0);
        x.need(3, 1);
        C.due("all, none done", x.ready(2), 0);
        C.due("any, none done", x.ready(3), 0);
        x.days(3);
        C.letters("one done", x, "drwr");
        C.due("all, one done", x.ready(2), 0);
        C.due("any, one done", x.ready(3), 1);
        x.days(1);
        C.due("all, both done", x.ready(2), 1);
        C.due("done ones are ready, too", x.ready(0), 1);
        TrousseauFlow y = new TrousseauFlow();
        y.step(1, 0, 1, false);
        y.step(9, 0, 0, false);
        y.need(1, 0);
        y.days(3);
        C.due("runs", y.ready(1), 1);
        y.cancel(1);
        C.due("what it needs is not done any more", y.ready(1), 0);
        y.days(20);
        C.letters("but it goes on", y, "xd");
    }

    private static void promise11() {
        TrousseauFlow x = twoSteps();
        x.step(1, 0, 1, false);
        x.hands(4);
        x.milestone(1, 1);
        x.milestone(2, 5);
        int[] due = {1, 1, NOTHING, 0};
        for (int what = 0; what < due.length; what++) {
            C.due("milestoneOf(0, " + what + ")", x.milestoneOf(0, what), due[what]);
        }
        C.due("milestoneOf(2, 0)", x.milestoneOf(2, 0), NONE);
        C.due("milestoneOf(-1, 4)", x.milestoneOf(-1, 4), NONE);
        C.due("milestoneOf(0, 4)", x.milestoneOf(0, 4), BAD);
        C.due("milestoneOf(0, -1)", x.milestoneOf(0, -1), BAD);
        x.days(1);
        C.due("on its day", x.milestoneOf(0, 3), 0);
        x.days(1);
        C.due("a day behind", x.milestoneOf(0, 3), 1);
        x.days(10);
        C.due("done on", x.milestoneOf(0, 2), 3);
        C.due("late by", x.milestoneOf(0, 3), 2);
        C.due("the other, done on", x.milestoneOf(1, 2), 1);
        C.due("the other, not late", x.milestoneOf(1, 3), 0);
        x.cancel(1);
        C.due("being undone, not done", x.milestoneOf(1, 2), NOTHING);
        C.due("being undone, late by the day now", x.milestoneOf(1, 3), 7);
        x.days(1);
        C.due("undone, not done", x.milestoneOf(1, 2), NOTHING);
        C.due("undone, late by the day now", x.milestoneOf(1, 3), 8);
    }

    private static void promise12() {
        TrousseauFlow x = twoSteps();
        C.due("none", x.late(), 0);
        x.milestone(0, 2);
        x.milestone(1, 1);
        C.due("not yet", x.late(), 0);
        x.days(3);
        C.due("one not done", x.late(), 2);
        x.days(20);
        C.due("both done", x.late(), 2);
        x.step(9, 0, 0, false);
        x.milestone(2, 3);
        C.due("with one that waits", x.late(), 22);
        TrousseauFlow y = twoSteps();
        y.milestone(0, 1);
        C.due("a milestone", y.late(), 0);
        y.days(9);
        C.due("the first one counts", y.late(), 1);
    }
}
