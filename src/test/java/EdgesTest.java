/** The sentences of 'Terms' that name an edge, each at the edge and on both sides of it. */
final class EdgesTest {
    private static final int NONE = Check.NONE;
    private static final int NOTHING = Check.NOTHING;
    private static final int REFUSED = Check.REFUSED;
    private static final Check C = new Check("EdgesTest");

    public static void main(String[] args) {
        howStepsAre();
        readyByNeeds();
        for (int how = 4; how <= 7; how++) {
            hopelessByOffSteps(how);
        }
        hopelessOrNot();
        triesAndFaults();
        daysOfUndoing();
        lastDoneFirst();
        branches();
        cancelledStays();
        handsThatBegin();
        handsThatRun();
        daysAreNumbered();
        whoBeginsFirst();
        lateOrNot();
        lateFarAhead();
        doneInDays();
        doneAndUndoneOnOneDay();
        needsAround();
        meansAndShares();
        linesOfOneSignAndMore();
        C.end();
    }

    /** All eight, by stepOf, by the accounts, and as letters. */
    private static void howStepsAre() {
        TrousseauFlow x = new TrousseauFlow();
        x.hands(4);
        x.step(1, 0, 1, false);
        x.step(3, 0, 1, false);
        x.step(9, 0, 1, false);
        x.step(1, 0, 0, false);
        x.step(9, 0, 0, false);
        x.step(1, 0, 0, false);
        x.step(1, 0, 0, false);
        x.step(1, 3, 0, false);
        x.need(5, 4);
        x.fault(3, 1);
        x.fault(7, 1);
        C.letters("at first", x, "wwwwwwww");
        C.due("a step waits at first", x.stepOf(7, 4), 0);
        x.days(3);
        C.letters("as four run", x, "drrfrwdr");
        x.hands(1);
        x.days(1);
        C.letters("as one rests", x, "ddrfrwdz");
        x.cancel(1);
        C.letters("as one is left out", x, "uuofrwdz");
        x.days(2);
        int[] how = {4, 5, 6, 7, 1, 0, 3, 2};
        C.letters("of all kinds", x, "uxofrwdz");
        for (int i = 0; i < how.length; i++) {
            C.due("stepOf(" + i + ", 4)", x.stepOf(i, 4), how[i]);
            C.due("account of " + i, x.account(2 + i), 1);
        }
    }

    private static void readyByNeeds() {
        for (int many = 0; many <= 11; many++) {
            TrousseauFlow x = new TrousseauFlow();
            x.hands(1);
            x.step(1, 0, 0, false);
            for (int i = 1; i < 12; i++) {
                x.step(1, 0, 0, false);
            }
            TrousseauFlow any = new TrousseauFlow();
            any.hands(1);
            any.step(1, 0, 0, true);
            for (int i = 1; i < 12; i++) {
                any.step(1, 0, 0, false);
            }
            for (int i = 1; i <= many; i++) {
                C.due("need " + i, x.need(0, i), i);
                any.need(0, i);
            }
            C.due("all of " + many + ", none done", x.ready(0), many == 0 ? 1 : 0);
            C.due("any of " + many + ", none done", any.ready(0), many == 0 ? 1 : 0);
            x.milestone(0, 1);
            x.days(1);
            any.days(1);
            for (int done = 1; done <= many; done++) {
                x.days(1);
                C.due("all of " + many + ", " + done + " done", x.ready(0), done == many ? 1 : 0);
            }
            any.days(1);
            C.due("any of " + many + ", one done", any.ready(0), 1);
        }
    }

    /** A world in which the step 0 is so as is asked, and the steps 1 and 2 are done. */
    private static TrousseauFlow withOff(int how) {
        TrousseauFlow x = new TrousseauFlow();
        x.step(3, 0, 1, false);
        x.step(1, 0, 0, false);
        x.step(1, 0, 0, false);
        x.hands(3);
        if (how == 6) {
            x.cancel(1);
            x.days(4);
        } else {
            if (how == 7) {
                x.fault(0, 1);
            }
            x.days(4);
            if (how != 7) {
                x.cancel(1);
            }
            if (how == 5) {
                x.days(2);
            }
        }
        C.due("the first is so", x.stepOf(0, 4), how);
        C.due("the second is done", x.stepOf(1, 4), 3);
        return x;
    }

    private static void hopelessByOffSteps(int how) {
        TrousseauFlow x = withOff(how);
        x.step(9, 0, 0, false);
        x.need(3, 0);
        x.step(9, 0, 0, false);
        x.need(4, 1);
        x.need(4, 0);
        x.step(9, 0, 0, true);
        x.need(5, 0);
        x.step(9, 0, 0, true);
        x.need(6, 0);
        x.need(6, 1);
        x.step(9, 0, 0, true);
        x.step(9, 0, 0, false);
        x.step(9, 0, 0, true);
        x.need(9, 0);
        x.need(9, 3);
        x.step(9, 0, 0, true);
        x.need(10, 0);
        x.need(10, 7);
        String first = Check.all(x).substring(0, 3);
        C.letters("not yet, as the first is " + how, x, first + "wwwwwwww");
        x.days(1);
        String then = Check.all(x).substring(0, 3);
        C.letters("of those that need one that is " + how, x, then + "ooorrrow");
        int day = x.account(0) - 1;
        String[] log = {"0 8 ", "0 7 ", "0 6 ", "5 9 ", "5 5 ", "5 4 ", "5 3 "};
        for (int k = 0; k < log.length; k++) {
            C.dueText("event " + k + ", as the first is " + how, Check.event(x, k), log[k] + day);
        }
    }

    private static void hopelessOrNot() {
        TrousseauFlow x = new TrousseauFlow();
        x.step(1, 0, 1, false);
        x.step(9, 0, 2, false);
        x.step(9, 0, 0, true);
        x.need(2, 0);
        x.need(2, 1);
        x.step(1, 0, 0, true);
        x.hands(1);
        x.milestone(3, 1);
        x.milestone(1, 2);
        x.days(2);
        x.cancel(1);
        x.days(1);
        C.letters("any, one of two is off", x, "orwd");
        x.cancel(2);
        C.letters("not by the call", x, "oowd");
        x.days(1);
        C.letters("any, both are off", x, "oood");
        TrousseauFlow y = new TrousseauFlow();
        y.step(1, 0, 1, false);
        y.step(4, 0, 2, false);
        y.step(4, 1, 0, false);
        y.need(1, 0);
        y.need(2, 0);
        y.fault(2, 1);
        y.days(4);
        C.letters("two run", y, "drr");
        y.cancel(1);
        y.days(1);
        C.letters("hopeless, but they run", y, "xrr");
        C.due("no branch is cancelled by it", y.account(12), 2);
        y.days(1);
        C.letters("the one is done, the other has rested and is left out", y, "xdo");
        C.dueText("its rest", Check.event(y, 1), "2 2 5");
        C.dueText("left out on the same day", Check.event(y, 0), "5 2 5");
        C.due("no branch is cancelled by that", y.account(12), 2);
        y.days(3);
        C.letters("the one that is done stays", y, "xdo");
        TrousseauFlow z = new TrousseauFlow();
        for (int i = 0; i < 12; i++) {
            z.step(1, 0, i == 11 ? 3 : 1, i % 2 == 0);
        }
        for (int i = 0; i < 11; i++) {
            z.need(i, i + 1);
        }
        z.cancel(3);
        C.letters("one of twelve", z, "wwwwwwwwwwwo");
        C.due("none is done", z.days(1), 0);
        C.letters("all of twelve, one over the other, on one day", z, "oooooooooooo");
        for (int i = 0; i < 12; i++) {
            C.dueText("event " + i, Check.event(z, i), "5 " + i + " 0");
        }
        C.due("a step that is left out cancels no branch", z.account(12), 8);
    }

    /** As many tries as it may have, one and those more; as many faults as told, fewer and more of them. */
    private static void triesAndFaults() {
        for (int more = 0; more <= 3; more++) {
            for (int faults = 0; faults <= 6; faults++) {
                String at = "of " + more + " more and " + faults + " faults";
                TrousseauFlow x = new TrousseauFlow();
                x.step(2, more, 1, false);
                if (faults > 0) {
                    C.due("fault " + at, x.fault(0, faults), faults);
                }
                boolean isDone = faults <= more;
                int tries = Math.min(faults, more) + 1;
                C.due("doneIn " + at, x.doneIn(0), isDone ? 2 * tries + 1 : NOTHING);
                x.days(2 * tries);
                C.due("runs " + at, x.stepOf(0, 4), 1);
                C.due("its last day " + at, x.stepOf(0, 5), 1);
                C.due("tries begun " + at, x.stepOf(0, 6), tries);
                C.due("done in the next day " + at, x.days(1), isDone ? 1 : 0);
                C.due("how it is " + at, x.stepOf(0, 4), isDone ? 3 : 7);
                C.due("no days to go " + at, x.stepOf(0, 5), 0);
                C.due("done on " + at, x.stepOf(0, 8), isDone ? 2 * tries : NOTHING);
                C.due("faults left " + at, x.stepOf(0, 7), Math.max(0, faults - more - 1));
                C.due("tries " + at, x.account(13), tries);
                C.due("wrong ones " + at, x.account(14), Math.min(faults, more + 1));
                C.due("cancelled " + at, x.account(12), isDone ? 0 : 2);
                x.days(30);
                C.due("tries stay " + at, x.account(13), tries);
            }
        }
    }

    private static void daysOfUndoing() {
        int[] half = {1, 1, 2, 2, 3, 3, 4, 4, 5};
        for (int days = 1; days <= 9; days++) {
            TrousseauFlow x = new TrousseauFlow();
            x.step(days, 0, 3, false);
            x.days(days);
            C.due("runs", x.stepOf(0, 4), 1);
            x.days(1);
            C.due("to be undone", x.cancel(3), 1);
            C.due("is being undone", x.stepOf(0, 4), 4);
            for (int toGo = half[days - 1]; toGo > 0; toGo--) {
                C.due("to go of " + days, x.stepOf(0, 5), toGo);
                C.due("is being undone", x.account(6), 1);
                x.days(1);
            }
            C.due("undone after half of " + days, x.stepOf(0, 4), 5);
            C.due("none to go", x.stepOf(0, 5), 0);
            C.due("undone so far", x.account(16), 1);
            C.due("still done so far", x.account(15), 1);
            x.days(30);
            C.due("undone once", x.account(16), 1);
            C.due("so already", x.cancel(3), REFUSED);
        }
    }

    private static void lastDoneFirst() {
        TrousseauFlow x = new TrousseauFlow();
        x.hands(1);
        for (int i = 0; i < 4; i++) {
            x.step(1, 0, 1, false);
        }
        x.milestone(2, 1);
        x.milestone(0, 2);
        x.milestone(3, 3);
        x.days(5);
        C.letters("all are done, in the order 2, 0, 3, 1", x, "dddd");
        C.due("cancel", x.cancel(1), 4);
        String[] then = {"uxuu", "uxux", "xxux", "xxxx"};
        for (String letters : then) {
            x.days(1);
            C.letters("one less", x, letters);
        }
        C.due("all were undone", x.account(16), 4);
    }

    private static void branches() {
        TrousseauFlow x = new TrousseauFlow();
        x.hands(4);
        for (int branch = 0; branch <= 3; branch++) {
            x.step(1, 0, branch, false);
            x.step(9, 0, branch, false);
        }
        x.milestone(0, 1);
        x.milestone(2, 1);
        x.milestone(4, 1);
        x.milestone(6, 1);
        x.days(2);
        C.letters("two of each", x, "drdrdrdr");
        C.due("cancel(0)", x.cancel(0), NONE);
        C.letters("the branch 0 is none", x, "drdrdrdr");
        C.due("cancel(3)", x.cancel(3), 1);
        C.letters("the last branch", x, "drdrdruo");
        C.due("the set", x.account(12), 8);
        C.due("cancel(1)", x.cancel(1), 1);
        C.letters("the first branch", x, "druodruo");
        C.due("the set", x.account(12), 10);
        C.due("cancel(2)", x.cancel(2), 1);
        C.letters("all branches", x, "druououo");
        C.due("cancel(4)", x.cancel(4), NONE);
        x.days(1);
        C.letters("each a day", x, "drxoxoxo");
        for (int branch = 0; branch <= 3; branch++) {
            TrousseauFlow y = new TrousseauFlow();
            y.step(1, 0, branch, false);
            y.step(3, 0, branch, false);
            y.fault(0, 1);
            y.days(2);
            C.letters("one of " + branch + " failed", y, branch == 0 ? "fr" : "fo");
            C.due("the set of " + branch, y.account(12), branch == 0 ? 0 : 1 << branch);
            C.due("a new one of " + branch, y.step(1, 0, branch, false), 2);
            C.letters("a new one of " + branch, y, branch == 0 ? "frw" : "foo");
        }
    }

    private static void cancelledStays() {
        TrousseauFlow x = new TrousseauFlow();
        x.cancel(2);
        x.days(30);
        C.due("it stays so", x.account(12), 4);
        C.due("a step for it later", x.step(1, 0, 2, false), 0);
        C.letters("at once", x, "o");
        C.dueText("an event of the day now", Check.event(x, 0), "5 0 30");
        C.due("run of one for it", Check.run(x, "day 2;step 1 0 2?"), 2);
        C.letters("at once, too", x, "oo");
        C.dueText("an event of its day", Check.event(x, 0), "5 1 32");
        C.due("it cannot need any more", x.need(0, 1), REFUSED);
        C.due("nor be told a fault", x.fault(0, 1), REFUSED);
        C.due("but it can be needed", x.step(1, 0, 0, false), 2);
        C.due("by one that waits", x.need(2, 0), 1);
        C.due("and have a milestone", x.milestone(0, 1), 0);
        C.due("which is late", x.milestoneOf(0, 3), 31);
        TrousseauFlow y = new TrousseauFlow();
        y.cancel(2);
        y.undo();
        y.step(1, 0, 2, false);
        C.letters("the cancelling is undone", y, "w");
        C.due("and can be told again", y.cancel(2), 0);
        C.letters("so it is left out", y, "o");
    }

    private static void handsThatBegin() {
        for (int hands = 1; hands <= 4; hands++) {
            for (int steps = 0; steps <= 6; steps++) {
                TrousseauFlow x = new TrousseauFlow();
                C.due("two hands at first", x.hands(hands), 2);
                for (int i = 0; i < steps; i++) {
                    x.step(9, 0, 0, false);
                }
                x.days(1);
                C.due("running of " + steps + " with " + hands, x.account(3), Math.min(hands, steps));
                C.due("tries of " + steps + " with " + hands, x.account(13), Math.min(hands, steps));
                C.dueText("the latest begin", Check.event(x, 0),
                    steps == 0 ? "-11 -11 -11" : "0 " + (Math.min(hands, steps) - 1) + " 0");
            }
        }
    }

    private static void handsThatRun() {
        TrousseauFlow x = new TrousseauFlow();
        x.hands(3);
        x.step(2, 0, 0, false);
        x.step(3, 0, 0, false);
        x.step(5, 0, 0, false);
        x.step(9, 0, 0, false);
        x.days(1);
        C.letters("three run", x, "rrrw");
        C.due("fewer hands", x.hands(2), 3);
        x.days(2);
        C.letters("as many run as there are hands", x, "drrw");
        x.days(1);
        C.letters("one less, so one begins", x, "ddrr");
        x.hands(1);
        x.days(2);
        C.letters("one hand, one runs", x, "dddr");
        x.step(1, 0, 0, false);
        x.days(6);
        C.letters("none begins as it goes on", x, "dddrw");
        C.due("until it is done", x.days(1), 1);
        C.letters("then", x, "ddddr");
    }

    private static void daysAreNumbered() {
        TrousseauFlow x = new TrousseauFlow();
        C.due("the day 0", x.account(0), 0);
        C.due("save on it", x.save(), 0);
        x.step(1, 0, 0, false);
        x.days(1);
        C.dueText("it begins on the day 0", Check.event(x, 0), "0 0 0");
        C.due("the day 1", x.account(0), 1);
        C.due("a day to go", x.stepOf(0, 5), 1);
        x.days(1);
        C.dueText("done on the day 1", Check.event(x, 0), "1 0 1");
        C.due("done on", x.stepOf(0, 8), 1);
        C.due("the day 2", x.account(0), 2);
        C.due("thirty days", x.days(30), 0);
        C.due("the day 32", x.account(0), 32);
        C.due("save on it", x.save(), 32);
        TrousseauFlow y = new TrousseauFlow();
        TrousseauFlow z = new TrousseauFlow();
        for (int i = 0; i < 12; i++) {
            y.step(1 + i % 3, i % 2, i % 4, i % 5 == 0);
            z.step(1 + i % 3, i % 2, i % 4, i % 5 == 0);
            y.fault(i, 1);
            z.fault(i, 1);
        }
        int sum = 0;
        for (int k = 0; k < 30; k++) {
            sum += y.days(1);
        }
        C.due("thirty days at once, or one by one", z.days(30), sum);
        C.dueText("all is like", Picture.ofChanges(z), Picture.ofChanges(y));
    }

    private static void whoBeginsFirst() {
        TrousseauFlow x = new TrousseauFlow();
        x.hands(1);
        for (int i = 0; i < 6; i++) {
            x.step(1, 0, 0, false);
        }
        x.milestone(5, 999);
        x.milestone(4, 2);
        x.milestone(3, 2);
        x.milestone(2, 1);
        int[] order = {2, 3, 4, 5, 0, 1};
        for (int k = 0; k < order.length; k++) {
            x.days(1);
            C.dueText("begins as " + k, Check.event(x, 0), "0 " + order[k] + " " + k);
        }
        TrousseauFlow y = new TrousseauFlow();
        y.hands(1);
        y.step(1, 1, 0, false);
        y.step(1, 1, 0, false);
        y.fault(0, 1);
        y.fault(1, 1);
        y.days(2);
        C.letters("one that rests is like one that waits, the lowest is first", y, "rw");
        y.milestone(1, 500);
        y.fault(0, 1);
        y.undo();
        y.days(1);
        C.letters("then the one with a milestone", y, "dr");
        y.days(2);
        C.letters("both", y, "dd");
        TrousseauFlow z = new TrousseauFlow();
        z.hands(1);
        z.step(1, 1, 0, false);
        z.step(1, 0, 0, false);
        z.fault(0, 1);
        z.days(1);
        z.milestone(1, 999);
        z.days(1);
        C.letters("a milestone goes ahead of a rest", z, "zr");
        z.days(1);
        C.letters("then the other", z, "rd");
    }

    private static void lateOrNot() {
        for (int due = 1; due <= 6; due++) {
            TrousseauFlow x = new TrousseauFlow();
            x.step(3, 0, 1, false);
            C.due("milestone", x.milestone(0, due), 0);
            for (int day = 0; day <= 8; day++) {
                boolean isDone = day > 3;
                int late = Math.max(0, (isDone ? 3 : day) - due);
                C.due("late of " + due + " on " + day, x.milestoneOf(0, 3), late);
                C.due("all late of " + due + " on " + day, x.late(), late);
                C.due("done of " + due + " on " + day, x.milestoneOf(0, 2), isDone ? 3 : NOTHING);
                x.days(1);
            }
            x.cancel(1);
            C.due("not done any more, of " + due, x.milestoneOf(0, 2), NOTHING);
            C.due("late by the day now, of " + due, x.milestoneOf(0, 3), 9 - due);
            x.days(2);
            C.due("undone counts as not done", x.milestoneOf(0, 2), NOTHING);
            C.due("late by the day then, of " + due, x.late(), 11 - due);
        }
    }

    private static void lateFarAhead() {
        TrousseauFlow x = new TrousseauFlow();
        x.step(1, 0, 0, false);
        x.milestone(0, 999);
        x.fault(0, 1);
        for (int k = 0; k < 33; k++) {
            x.days(30);
        }
        x.days(9);
        C.due("the day", x.account(0), 999);
        C.letters("it failed", x, "f");
        C.due("on its day", x.late(), 0);
        x.days(1);
        C.due("a day behind", x.late(), 1);
        x.days(30);
        C.due("more days behind", x.milestoneOf(0, 3), 31);
        C.due("not done", x.milestoneOf(0, 2), NOTHING);
    }

    private static void doneInDays() {
        for (int days = 1; days <= 9; days++) {
            TrousseauFlow x = new TrousseauFlow();
            x.step(days, 0, 0, false);
            for (int left = days + 1; left > 0; left--) {
                C.due("doneIn of " + days, x.doneIn(0), left);
                C.due("not done yet", x.stepOf(0, 4) == 3 ? 1 : 0, 0);
                x.days(1);
            }
            C.due("done now", x.doneIn(0), 0);
        }
        TrousseauFlow y = new TrousseauFlow();
        y.step(9, 0, 0, false);
        y.step(1, 0, 1, false);
        y.need(1, 0);
        C.due("behind another", y.doneIn(1), 11);
        y.cancel(1);
        C.due("left out", y.doneIn(1), NOTHING);
        C.due("the other", y.doneIn(0), 10);
        TrousseauFlow z = new TrousseauFlow();
        z.hands(4);
        z.step(2, 0, 1, false);
        z.step(4, 0, 1, false);
        z.fault(0, 1);
        C.due("left out as another fails", z.doneIn(1), NOTHING);
        C.due("nothing of it happened", z.account(12), 0);
        C.letters("they wait", z, "ww");
    }

    private static void doneAndUndoneOnOneDay() {
        TrousseauFlow x = new TrousseauFlow();
        x.step(2, 0, 1, false);
        x.step(2, 0, 1, false);
        x.step(3, 0, 1, false);
        x.hands(3);
        x.fault(1, 1);
        x.days(2);
        C.due("done in the day", x.days(1), 1);
        C.letters("undone on it, the other failed, the last left out", x, "xfo");
        C.due("done on", x.stepOf(0, 8), 2);
        C.due("done so far", x.account(15), 1);
        C.due("undone so far", x.account(16), 1);
        String[] log = {"4 0 2", "5 2 2", "3 1 2", "1 0 2"};
        for (int k = 0; k < log.length; k++) {
            C.dueText("event " + k, Check.event(x, k), log[k]);
        }
        TrousseauFlow y = new TrousseauFlow();
        y.step(2, 0, 1, false);
        y.step(2, 0, 1, false);
        y.fault(0, 1);
        y.days(2);
        C.due("none is done", y.days(1), 0);
        C.letters("the later one runs out, though its day is not gone through yet", y, "fo");
        C.due("its days to go", y.stepOf(1, 5), 0);
        C.due("never done", y.stepOf(1, 8), NOTHING);
        C.due("its tries", y.stepOf(1, 6), 1);
        C.due("that did not go wrong", y.account(14), 1);
    }

    /** No step needs itself, over as many others as there can be, in each direction. */
    private static void needsAround() {
        for (int length = 2; length <= 12; length++) {
            TrousseauFlow x = new TrousseauFlow();
            for (int i = 0; i < 12; i++) {
                x.step(1, 0, 0, i % 2 == 0);
            }
            int[] way = {5, 11, 0, 7, 2, 9, 1, 10, 3, 8, 4, 6};
            for (int k = 0; k + 1 < length; k++) {
                C.due("need on the way", x.need(way[k], way[k + 1]), 1);
            }
            int last = way[length - 1];
            C.refused("around " + length, x, x.need(last, 5), 4, 5);
            C.due("needs none", x.stepOf(last, 9), 0);
            C.due("the chain", x.chain(5), length);
            C.due("the chain again", x.chainAgain(5), length);
            C.due("across", x.need(5, last), length == 2 ? REFUSED : 2);
            C.due("the chain stays", x.chain(5), length);
        }
    }

    private static void meansAndShares() {
        TrousseauFlow x = new TrousseauFlow();
        C.dueNumber("the mean without steps", x.meanDays(), 0.0);
        C.dueNumber("the share without tries", x.wrongShare(), 0.0f);
        int sum = 0;
        for (int i = 0; i < 12; i++) {
            int days = 1 + i * 5 % 9;
            sum += days;
            x.step(days, 0, 1, false);
            C.dueNumber("the mean of " + (i + 1), x.meanDays(), (double) sum / (i + 1));
        }
        x.step(9, 0, 0, false);
        C.dueNumber("the mean, one refused", x.meanDays(), sum / 12.0);
        x.cancel(1);
        C.dueNumber("the mean of those left out", x.meanDays(), sum / 12.0);
        TrousseauFlow y = new TrousseauFlow();
        y.step(1, 2, 0, false);
        y.fault(0, 9);
        C.dueNumber("no try began", y.wrongShare(), 0.0f);
        y.days(1);
        C.dueNumber("none went wrong", y.wrongShare(), 0.0f);
        for (int wrong = 1; wrong <= 2; wrong++) {
            y.days(1);
            C.dueNumber(wrong + " went wrong", y.wrongShare(), (float) wrong / (wrong + 1));
        }
        y.days(1);
        C.dueNumber("all went wrong", y.wrongShare(), 1.0f);
        y.undo();
        C.dueNumber("undone", y.wrongShare(), 2.0f / 3.0f);
        TrousseauFlow z = new TrousseauFlow();
        z.step(1, 0, 0, false);
        z.fault(0, 1);
        z.days(2);
        C.dueNumber("the only one went wrong", z.wrongShare(), 1.0f);
    }

    private static void linesOfOneSignAndMore() {
        TrousseauFlow x = new TrousseauFlow();
        C.due("no step, no line", x.tell(0), NONE);
        for (int count = 0; count <= 12; count++) {
            C.due("letters of " + count, x.tellAll(), count);
            C.due("behind the last", x.character(count), NONE);
            if (count > 0) {
                C.due("the last", x.character(count - 1), 'w');
            }
            x.step(1 + count % 9, count % 4, count % 3, count % 2 == 1);
        }
        String[] lines = {"0=1", "1=2*1?/1", "2=3*2/2", "3=4*3?", "4=5/1", "5=6*1?/2", "6=7*2", "7=8*3?/1", "8=9/2",
            "9=1*1?", "10=2*2/1", "11=3*3?/2"};
        for (int i = 0; i < 12; i++) {
            C.dueText("line " + i, Check.line(x, i), lines[i]);
            C.due("behind the line " + i, x.character(lines[i].length()), NONE);
            for (int k = 11; k >= 0; k--) {
                x.need(i, k);
            }
        }
        C.dueText("with all needs, the lowest first", Check.line(x, 0), "0=1<1<2<3<4<5<6<7<8<9<10<11");
        C.dueText("with those that are not around", Check.line(x, 10), "10=2*2/1<11");
        C.dueText("with none", Check.line(x, 11), "11=3*3?/2");
        C.due("no such step", x.tell(12), NONE);
        C.due("the line before stays", x.character(8), '2');
    }
}
