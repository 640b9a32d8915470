/** What the terms, and their paragraph "In doubt", say beyond single promises. */
final class InDoubtTest {
    private static final Check C = new Check("InDoubtTest");

    public static void main(String[] args) {
        undoingOrder();
        cancellingByFailure();
        hopelessOnes();
        waysOfBeginning();
        faultsOfRunningTries();
        C.end();
    }

    private static void undoingOrder() {
        TrousseauFlow x = new TrousseauFlow();
        x.hands(4);
        x.step(3, 0, 1, false);
        x.step(1, 0, 1, false);
        x.step(3, 0, 1, false);
        x.step(2, 0, 2, false);
        x.days(4);
        x.cancel(1);
        x.cancel(2);
        C.letters("all are being undone", x, "uuuu");
        C.due("of the same day the higher one is first", x.stepOf(2, 5), 2);
        x.days(1);
        C.letters("a branch beside the other", x, "uuux");
        C.due("the first has fewer", x.stepOf(2, 5), 1);
        C.due("the second has all", x.stepOf(0, 5), 2);
        x.days(1);
        C.letters("the first is undone", x, "uuxx");
        x.days(2);
        C.letters("then the second", x, "xuxx");
        x.days(1);
        C.letters("then the last", x, "xxxx");
        C.due("undone so far", x.account(16), 4);
        C.due("done so far", x.account(15), 4);
    }

    private static void cancellingByFailure() {
        TrousseauFlow x = new TrousseauFlow();
        x.hands(4);
        x.step(1, 0, 1, false);
        x.step(2, 0, 1, false);
        x.step(2, 0, 1, false);
        x.step(2, 0, 2, false);
        x.step(3, 0, 1, false);
        x.fault(1, 1);
        x.days(2);
        C.letters("the day ahead of it", x, "drrrr");
        C.due("done in the day", x.days(1), 1);
        C.letters("the later one of that day is left out", x, "xfodo");
        C.dueText("event", Check.event(x, 0), "4 0 2");
        C.dueText("event", Check.event(x, 1), "1 3 2");
        C.dueText("event", Check.event(x, 2), "5 4 2");
        C.dueText("event", Check.event(x, 3), "5 2 2");
        C.dueText("event", Check.event(x, 4), "3 1 2");
        C.due("the branch is cancelled", x.account(12), 2);
        C.refused("so already", x, x.cancel(1), 3, 1);
        TrousseauFlow y = new TrousseauFlow();
        y.step(1, 0, 0, false);
        y.step(5, 0, 0, false);
        y.fault(0, 1);
        y.days(2);
        C.letters("the branch 0 is none", y, "fr");
        C.due("none is cancelled", y.account(12), 0);
    }

    private static void hopelessOnes() {
        TrousseauFlow x = new TrousseauFlow();
        x.step(1, 0, 0, false);
        x.step(1, 0, 0, false);
        x.step(1, 0, 1, false);
        x.step(1, 0, 0, true);
        x.step(1, 0, 0, false);
        x.need(0, 1);
        x.need(1, 2);
        x.need(4, 2);
        x.need(3, 0);
        x.need(3, 4);
        x.cancel(1);
        C.letters("not by the call", x, "wwoww");
        x.days(1);
        C.letters("by the day", x, "ooooo");
        C.dueText("the first", Check.event(x, 3), "5 1 0");
        C.dueText("the lowest then", Check.event(x, 2), "5 0 0");
        C.dueText("not yet 3", Check.event(x, 1), "5 4 0");
        C.dueText("the last", Check.event(x, 0), "5 3 0");
        TrousseauFlow y = new TrousseauFlow();
        y.step(1, 0, 1, false);
        y.step(2, 0, 0, true);
        y.step(9, 0, 0, false);
        y.step(1, 0, 0, true);
        y.need(1, 0);
        y.need(1, 2);
        y.need(3, 0);
        y.days(2);
        C.letters("one runs by any", y, "drrw");
        y.cancel(1);
        y.days(1);
        C.letters("the one that runs goes on, the other is left out", y, "xrro");
        y.days(1);
        C.letters("and is done", y, "xdro");
        TrousseauFlow u = new TrousseauFlow();
        u.step(9, 0, 1, false);
        u.step(9, 0, 0, true);
        u.step(9, 0, 0, false);
        u.need(1, 0);
        u.need(2, 0);
        u.days(9);
        u.hands(1);
        u.step(1, 0, 0, false);
        u.milestone(3, 1);
        u.days(1);
        C.letters("two wait", u, "dwwr");
        u.cancel(1);
        u.days(1);
        C.letters("a step that is being undone is off, too", u, "uood");
        TrousseauFlow z = new TrousseauFlow();
        z.step(1, 0, 1, false);
        z.step(1, 3, 0, false);
        z.need(1, 0);
        z.fault(1, 1);
        z.days(2);
        z.cancel(1);
        z.days(1);
        C.letters("a step that rests is hopeless, too", z, "xo");
    }

    private static void waysOfBeginning() {
        TrousseauFlow x = new TrousseauFlow();
        x.hands(1);
        x.step(1, 0, 0, false);
        x.step(1, 0, 0, true);
        x.step(1, 0, 0, false);
        x.milestone(2, 20);
        x.need(2, 1);
        x.days(1);
        C.letters("the one with a milestone is not ready", x, "rww");
        x.days(1);
        C.letters("then the lowest", x, "drw");
        x.days(1);
        C.letters("then it is", x, "ddr");
        TrousseauFlow y = new TrousseauFlow();
        y.step(1, 1, 0, false);
        y.fault(0, 1);
        y.days(2);
        C.letters("rests and begins on one day", y, "r");
        C.dueText("its rest", Check.event(y, 1), "2 0 1");
        C.dueText("its begin", Check.event(y, 0), "0 0 1");
        C.due("tries", y.account(13), 2);
    }

    /** A fault told as a step runs lets that try go wrong: it is the next that ends. */
    private static void faultsOfRunningTries() {
        TrousseauFlow x = new TrousseauFlow();
        x.step(3, 0, 0, false);
        x.days(2);
        x.fault(0, 1);
        C.due("not done any more", x.doneIn(0), Check.NOTHING);
        x.days(2);
        C.letters("it failed", x, "f");
        C.due("none left", x.stepOf(0, 7), 0);
        C.due("one went wrong", x.account(14), 1);
        x.days(30);
        C.letters("and stays so", x, "f");
    }
}
