/** The promises 13 to 17. */
final class WhatComesTest {
    private static final int NONE = Check.NONE;
    private static final int BAD = Check.BAD;
    private static final int NOTHING = Check.NOTHING;
    private static final Check C = new Check("WhatComesTest");

    public static void main(String[] args) {
        promise13();
        doneInFarAhead();
        chains();
        promise16();
        promise17();
        C.end();
    }

    private static void promise13() {
        TrousseauFlow x = new TrousseauFlow();
        C.due("doneIn(0) without steps", x.doneIn(0), NONE);
        x.step(2, 1, 0, false);
        x.step(3, 0, 0, false);
        x.step(1, 0, 0, false);
        x.need(1, 0);
        x.fault(0, 1);
        C.due("a step with a wrong try", x.doneIn(0), 5);
        C.due("one that needs it", x.doneIn(1), 8);
        C.due("one beside it", x.doneIn(2), 2);
        C.due("doneIn(-1)", x.doneIn(-1), NONE);
        C.due("doneIn(3)", x.doneIn(3), NONE);
        C.due("doneIn(least)", x.doneIn(Integer.MIN_VALUE), NONE);
        C.due("no day went by", x.account(0), 0);
        C.due("nothing was logged", x.logged(0, 0), NONE);
        C.due("it is no change", x.account(18), 5);
        x.days(4);
        C.due("later", x.doneIn(0), 1);
        x.days(1);
        C.due("done now", x.doneIn(0), 0);
        C.due("done long ago", x.doneIn(2), 0);
        x.step(1, 0, 1, false);
        x.fault(3, 1);
        C.due("it fails", x.doneIn(3), NOTHING);
        x.step(1, 0, 0, false);
        x.need(4, 3);
        C.due("it is hopeless then", x.doneIn(4), NOTHING);
        TrousseauFlow y = new TrousseauFlow();
        y.step(1, 0, 1, false);
        y.days(2);
        y.cancel(1);
        C.due("being undone", y.doneIn(0), NOTHING);
        y.days(1);
        C.due("undone", y.doneIn(0), NOTHING);
    }

    /** Ten steps of nine days with three wrong tries each keep one hand busy beyond 200 days. */
    private static void doneInFarAhead() {
        TrousseauFlow x = new TrousseauFlow();
        x.hands(1);
        for (int i = 0; i < 5; i++) {
            x.step(9, 3, 0, false);
            x.fault(i, 3);
        }
        for (int i = 0; i < 4; i++) {
            C.due("step " + i, x.doneIn(i), 36 * (i + 1) + 1);
        }
        C.due("step 4", x.doneIn(4), 181);
        x.step(9, 1, 0, false);
        x.fault(5, 1);
        x.step(1, 0, 0, false);
        x.step(1, 0, 0, false);
        C.due("step 5", x.doneIn(5), 199);
        C.due("the latest one", x.doneIn(6), 200);
        C.due("a day too late", x.doneIn(7), NOTHING);
        x.days(1);
        C.due("a day later", x.doneIn(7), 200);
        C.due("and the first", x.doneIn(0), 36);
    }

    /** The promises 14 and 15. */
    private static void chains() {
        TrousseauFlow x = new TrousseauFlow();
        for (int wrong : new int[] {0, -1, 12, Integer.MIN_VALUE, Integer.MAX_VALUE}) {
            C.due("chain(" + wrong + ")", x.chain(wrong), NONE);
            C.due("chainAgain(" + wrong + ")", x.chainAgain(wrong), NONE);
        }
        int[] days = {4, 1, 9, 2, 3, 5};
        for (int i = 0; i < days.length; i++) {
            x.step(days[i], 0, i == 1 ? 1 : 0, i % 2 == 0);
        }
        x.need(0, 5);
        x.need(5, 1);
        x.need(0, 3);
        x.need(3, 4);
        x.need(3, 1);
        int[] due = {10, 1, 9, 5, 3, 6};
        chainsAre(x, "at first", due);
        x.need(4, 2);
        int[] longer = {18, 1, 9, 14, 12, 6};
        chainsAre(x, "with one more", longer);
        x.cancel(1);
        x.days(30);
        C.letters("many are left out", x, "oododo");
        chainsAre(x, "whatever they are", longer);
        TrousseauFlow y = new TrousseauFlow();
        for (int i = 0; i < 12; i++) {
            y.step(9, 0, 0, false);
        }
        for (int i = 0; i < 12; i++) {
            for (int k = i + 1; k < 12; k++) {
                y.need(i, k);
            }
        }
        for (int i = 0; i < 12; i++) {
            C.due("ranked(" + i + ") of twelve", y.ranked(i), i);
            C.due("doneIn(" + i + ") of twelve", y.doneIn(i), 9 * (12 - i) + 1);
            C.due("long chain(" + i + ")", y.chain(i), 9 * (12 - i));
            C.due("long chainAgain(" + i + ")", y.chainAgain(i), 9 * (12 - i));
        }
    }

    private static void chainsAre(TrousseauFlow x, String when, int[] due) {
        for (int i = 0; i < due.length; i++) {
            C.due("chain(" + i + ") " + when, x.chain(i), due[i]);
            C.due("chainAgain(" + i + ") " + when, x.chainAgain(i), due[i]);
        }
        C.due("chain of none " + when, x.chain(due.length), NONE);
        C.due("chainAgain of none " + when, x.chainAgain(due.length), NONE);
    }

    private static void promise16() {
        TrousseauFlow x = new TrousseauFlow();
        C.due("no event", x.logged(0, 0), NONE);
        C.due("no event ahead of what", x.logged(0, 9), NONE);
        x.step(1, 1, 1, false);
        x.step(1, 0, 2, false);
        x.step(1, 0, 0, false);
        x.need(2, 1);
        x.fault(0, 1);
        x.fault(1, 1);
        x.days(2);
        String[] early = {"0 0 1", "5 2 1", "3 1 1", "2 0 1", "0 1 0", "0 0 0"};
        logIs(x, "of two days", early);
        C.due("one place behind", x.logged(6, 0), NONE);
        C.due("logged(-1, 0)", x.logged(-1, 0), NONE);
        C.due("logged(0, 3)", x.logged(0, 3), BAD);
        C.due("logged(0, -1)", x.logged(0, -1), BAD);
        C.due("logged(most, 0)", x.logged(Integer.MAX_VALUE, 0), NONE);
        C.due("logged(least, 0)", x.logged(Integer.MIN_VALUE, 0), NONE);
        x.days(1);
        x.cancel(1);
        x.days(1);
        String[] late = {"4 0 3", "1 0 2", "0 0 1", "5 2 1"};
        logIs(x, "of four days", late);
        TrousseauFlow y = new TrousseauFlow();
        y.cancel(3);
        for (int i = 0; i < 12; i++) {
            y.step(1, 0, i < 6 ? 3 : 0, false);
        }
        y.hands(4);
        y.days(2);
        String[] twelve = {"0 11 1", "0 10 1", "1 9 1", "1 8 1", "1 7 1", "1 6 1", "0 9 0", "0 8 0", "0 7 0", "0 6 0",
            "5 5 0", "5 4 0", "5 3 0", "5 2 0", "5 1 0", "5 0 0"};
        for (int k = 0; k < 16; k++) {
            C.dueText("place " + k, Check.event(y, k), twelve[k]);
        }
        C.due("the place 16", y.logged(16, 0), NONE);
        C.dueText("the latest", Check.event(y, 0), "0 11 1");
        C.dueText("the first that is kept", Check.event(y, 15), "5 0 0");
        y.days(1);
        C.dueText("the first that is kept then", Check.event(y, 15), "5 2 0");
        C.dueText("the latest then", Check.event(y, 0), "1 11 2");
        C.due("the place 16 then", y.logged(16, 0), NONE);
    }

    private static void logIs(TrousseauFlow x, String when, String[] due) {
        for (int k = 0; k < due.length; k++) {
            C.dueText("event " + k + " " + when, Check.event(x, k), due[k]);
        }
    }

    private static void promise17() {
        TrousseauFlow x = new TrousseauFlow();
        int[] days = {1, 3, 3, 2, 5, 1};
        for (int d : days) {
            x.step(d, 3, 0, false);
        }
        ranksAre(x, "at first, by the days", new int[] {4, 1, 2, 3, 0, 5});
        x.fault(5, 2);
        x.fault(3, 2);
        x.hands(4);
        x.milestone(5, 9);
        x.milestone(3, 9);
        x.days(3);
        C.due("tries of 5", x.stepOf(5, 6), 3);
        C.due("tries of 3", x.stepOf(3, 6), 2);
        C.due("tries of 1", x.stepOf(1, 6), 1);
        ranksAre(x, "by the tries", new int[] {5, 3, 1, 2, 0, 4});
        C.due("ranked(-1)", x.ranked(-1), NONE);
        C.due("ranked(6)", x.ranked(6), NONE);
        C.due("ranked(least)", x.ranked(Integer.MIN_VALUE), NONE);
        C.due("ranked(most)", x.ranked(Integer.MAX_VALUE), NONE);
    }

    private static void ranksAre(TrousseauFlow x, String when, int[] due) {
        for (int k = 0; k < due.length; k++) {
            C.due("ranked(" + k + ") " + when, x.ranked(k), due[k]);
        }
    }
}
