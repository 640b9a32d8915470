/** The promises 18 to 22. */
final class TextsAndLinesTest {
    private static final int NONE = Check.NONE;
    private static final int BAD = Check.BAD;
    private static final int FULL = Check.FULL;
    private static final int REFUSED = Check.REFUSED;
    private static final Check C = new Check("TextsAndLinesTest");

    public static void main(String[] args) {
        promise18();
        rightTexts();
        wrongTexts();
        everyFaultPosition();
        refusedTexts();
        promise20();
        promise21();
        promise22();
        C.end();
    }

    private static void promise18() {
        TrousseauFlow x = new TrousseauFlow();
        for (int wrong : new int[] {31, 127, -1, 0, 255, Integer.MAX_VALUE, Integer.MIN_VALUE, 65536 + 65}) {
            C.due("append(" + wrong + ")", x.append(wrong), BAD);
        }
        C.due("append(32)", x.append(32), 1);
        C.due("append(126)", x.append(126), 2);
        for (int k = 3; k <= 60; k++) {
            C.due("sign " + k, x.append('a'), k);
        }
        C.due("full", x.append('a'), FULL);
        C.due("the code ahead of full", x.append(127), BAD);
        C.due("account(17)", x.account(17), 60);
        C.due("no changes", x.account(18), 0);
        C.due("run", x.run(), -1000);
        C.due("emptied", x.account(17), 0);
        C.due("append again", x.append('d'), 1);
    }

    /** Promise 19: texts that are right. */
    private static void rightTexts() {
        TrousseauFlow x = new TrousseauFlow();
        C.due("one order", Check.run(x, "step 3 2 1?"), 1);
        C.dueText("the step", Check.line(x, 0), "0=3*2?/1");
        C.due("two orders", Check.run(x, "step 1 0 0;need 00 1"), 2);
        C.due("a fault", Check.run(x, "fault 1*9"), 1);
        C.due("next wrong", x.stepOf(1, 7), 9);
        C.due("with two digits", Check.run(x, "fault 01*1"), 1);
        C.due("next wrong then", x.stepOf(1, 7), 10);
        C.due("hands", Check.run(x, "hands 4"), 1);
        C.due("hands then", x.account(10), 4);
        C.due("milestones", Check.run(x, "mile 0@009;mile 01@999"), 2);
        C.due("day of the first", x.milestoneOf(0, 1), 9);
        C.due("day of the second", x.milestoneOf(1, 1), 999);
        C.due("days", Check.run(x, "day 1;day 02;day 30"), 3);
        C.due("the day", x.account(0), 33);
        C.due("cancel", Check.run(x, "cancel 3"), 1);
        C.due("cancelled", x.account(12), 8);
        C.due("each run is one change", x.account(18), 8);
        C.due("ten orders", Check.run(x, "day 1;day 1;day 1;day 1;day 1;day 1;day 1;day 1;day 1;day 1"), 10);
        C.due("the day then", x.account(0), 43);
        x.undo();
        C.due("undone as one", x.account(0), 33);
        C.due("the text is not undone", x.account(17), 0);
        TrousseauFlow y = new TrousseauFlow();
        C.due("sixty signs", Check.run(y, "step 1 0 0;step 1 0 0;step 1 0 0;step 1 0 0;step 1 0 0;day 5"), 6);
        C.letters("after it", y, "ddddd");
    }

    private static void wrong(String text, int position) {
        TrousseauFlow x = new TrousseauFlow();
        x.step(1, 0, 0, false);
        x.cancel(9);
        C.due("\"" + text + "\"", Check.run(x, text), -1000 - position);
        C.due("emptied after \"" + text + "\"", x.account(17), 0);
        C.due("no change by \"" + text + "\"", x.account(18), 1);
        C.due("no reason by \"" + text + "\"", x.reason(false), Check.NOTHING);
    }

    /** Promise 19: texts that are wrong, by their fault positions. */
    private static void wrongTexts() {
        wrong("", 0);
        wrong(" ", 0);
        wrong("Step 1 0 0", 0);
        wrong("day 1;", 6);
        wrong("day 1;;day 1", 6);
        wrong(";day 1", 0);
        wrong("day 1 ", 5);
        wrong("day 123", 6);
        wrong("day  1", 4);
        wrong("day -1", 4);
        wrong("day", 3);
        wrong("day ", 4);
        wrong("dax 1", 2);
        wrong("da5", 2);
        wrong("day5", 3);
        wrong("handy 2", 4);
        wrong("step 12 0 0", 6);
        wrong("step 1 0", 8);
        wrong("step 1 00", 8);
        wrong("step 1 0 0??", 11);
        wrong("step 1 0 0 ?", 10);
        wrong("step 1 0 01", 10);
        wrong("need 1", 6);
        wrong("need 123", 7);
        wrong("need 1 ", 7);
        wrong("need 1 234", 9);
        wrong("need 1*2", 6);
        wrong("fault 1 2", 7);
        wrong("fault 1*", 8);
        wrong("fault 1*22", 9);
        wrong("hands 12", 7);
        wrong("hands x", 6);
        wrong("hand 2", 4);
        wrong("step 1x0 0", 6);
        wrong("step 1 x 0", 7);
        wrong("step 1 0x0", 8);
        wrong("step 1 0 x", 9);
        wrong("cancel 1?", 8);
        wrong("cancel 11", 8);
        wrong("mile 1@", 7);
        wrong("mile 1@1234", 10);
        wrong("mile @1", 5);
        wrong("mile 1#1", 6);
        wrong("day 1;need 0 x", 13);
        wrong("cancel 0;step 0 9 9;need 99 99;fault 99*0;mile 99@000!", 53);
        wrong("day 1;day 1;day 1;day 1;day 1;day 1;day 1;day 1;day 1;day 1;", 60);
    }

    /** Each start of a right text ends too early, or is right; and with a wrong sign it is wrong there. */
    private static void everyFaultPosition() {
        String text = "step 1 0 0?;need 11 10;fault 1*2;hands 4;mile 1@1;day 1";
        String mayEnd = "step 1 0 0";
        for (int k = 0; k <= text.length(); k++) {
            String start = text.substring(0, k);
            boolean isRight = k >= mayEnd.length() && isWhole(start);
            TrousseauFlow x = new TrousseauFlow();
            int answer = Check.run(x, start);
            C.due("start of " + k, isRight && answer > -1000 ? 1 : answer, isRight ? 1 : -1000 - k);
            C.due("a wrong sign at " + k, Check.run(new TrousseauFlow(), start + "~"), -1000 - k);
        }
    }

    private static boolean isWhole(String start) {
        String last = start.substring(start.lastIndexOf(';') + 1);
        return last.matches("step . . .\\??|need \\d+ \\d+|fault \\d\\*\\d|hands \\d|mile \\d@\\d|day \\d");
    }

    private static void refusedText(String text, int order) {
        TrousseauFlow x = new TrousseauFlow();
        x.step(2, 0, 1, false);
        C.refused("\"" + text + "\"", x, Check.run(x, text), 6, order);
        C.due("emptied after \"" + text + "\"", x.account(17), 0);
        C.due("no change by \"" + text + "\"", x.account(18), 1);
        C.due("no step by \"" + text + "\"", x.account(1), 1);
        C.due("no day by \"" + text + "\"", x.account(0), 0);
        C.due("no hands by \"" + text + "\"", x.account(10), 2);
        C.due("no event by \"" + text + "\"", x.logged(0, 0), NONE);
    }

    /** Promise 19: orders that cannot be carried out. */
    private static void refusedTexts() {
        refusedText("step 0 0 0", 0);
        refusedText("day 2;step 1 4 0", 1);
        refusedText("hands 3;step 1 0 4;day 1", 1);
        refusedText("step 1 0 0;need 0 2", 1);
        refusedText("step 1 0 0;need 1 0;need 0 1", 2);
        refusedText("need 0 0", 0);
        refusedText("fault 1*1", 0);
        refusedText("fault 0*0", 0);
        refusedText("day 3;fault 0*1", 1);
        refusedText("hands 0", 0);
        refusedText("hands 5", 0);
        refusedText("cancel 0", 0);
        refusedText("cancel 1;cancel 2;cancel 1", 2);
        refusedText("mile 0@0", 0);
        refusedText("mile 1@1", 0);
        refusedText("mile 0@1;mile 0@2", 1);
        refusedText("day 0", 0);
        refusedText("day 1;day 31;day 99", 1);
        TrousseauFlow x = new TrousseauFlow();
        x.cancel(1);
        x.cancel(1);
        C.due("a reason ahead of it", x.reason(false), 3);
        C.due("a right text", Check.run(x, "day 1"), 1);
        C.due("keeps the reason", x.reason(false), 3);
        C.due("an order refused", Check.run(x, "day 1;cancel 1"), REFUSED);
        C.due("its reason", x.reason(false), 6);
        C.due("a wrong text", Check.run(x, "day 1;cancel"), -1012);
        C.due("keeps the reason, too", x.reason(true), 1);
        x.undo();
        C.due("so does an undo", x.reason(true), 1);
    }

    private static void promise20() {
        TrousseauFlow x = new TrousseauFlow();
        x.step(1, 0, 0, false);
        x.step(2, 3, 0, false);
        x.step(3, 0, 1, false);
        x.step(4, 0, 0, true);
        x.step(3, 1, 2, true);
        x.need(4, 3);
        x.need(4, 0);
        C.due("tell(0)", x.tell(0), 3);
        C.dueText("line 0", Check.line(x, 0), "0=1");
        C.dueText("line 1", Check.line(x, 1), "1=2*3");
        C.dueText("line 2", Check.line(x, 2), "2=3/1");
        C.dueText("line 3", Check.line(x, 3), "3=4?");
        C.dueText("line 4", Check.line(x, 4), "4=3*1?/2<0<3");
        C.due("tell(4)", x.tell(4), 12);
        C.due("tell(5)", x.tell(5), NONE);
        C.due("tell(-1)", x.tell(-1), NONE);
        C.due("tell(most)", x.tell(Integer.MAX_VALUE), NONE);
        C.due("the line before stays", x.character(0), '4');
        for (int i = 5; i < 12; i++) {
            x.step(9, 3, 3, true);
        }
        for (int i = 0; i < 11; i++) {
            x.need(11, 10 - i);
        }
        C.dueText("the longest line", Check.line(x, 11), "11=9*3?/3<0<1<2<3<4<5<6<7<8<9<10");
        C.dueText("line 10", Check.line(x, 10), "10=9*3?/3");
    }

    private static void promise21() {
        TrousseauFlow x = new TrousseauFlow();
        C.due("no steps", x.tellAll(), 0);
        C.due("the line is empty", x.character(0), NONE);
        x.step(1, 0, 1, false);
        x.step(9, 0, 1, false);
        x.step(3, 1, 0, false);
        x.step(1, 0, 0, false);
        x.step(1, 0, 0, false);
        x.step(6, 0, 0, false);
        x.milestone(4, 999);
        x.milestone(5, 2);
        x.hands(3);
        x.fault(2, 1);
        x.fault(3, 1);
        C.letters("all wait", x, "wwwwww");
        x.days(1);
        C.letters("some run", x, "rwwwrr");
        x.days(1);
        C.letters("two are done", x, "drrwdr");
        x.hands(1);
        x.cancel(1);
        C.letters("one is being undone", x, "uorwdr");
        x.days(3);
        C.letters("one rests", x, "xozwdr");
        x.days(4);
        C.letters("the one that rests goes on, as it is lower", x, "xorwdd");
        x.hands(2);
        x.days(2);
        C.letters("one failed", x, "xodfdd");
        C.due("its length", x.tellAll(), 6);
        C.due("a short line in place of it", x.tell(4), 3);
        C.due("character(3)", x.character(3), NONE);
    }

    private static void promise22() {
        TrousseauFlow x = new TrousseauFlow();
        C.due("empty at first", x.character(0), NONE);
        x.step(7, 0, 0, false);
        C.due("no line yet", x.character(0), NONE);
        x.tell(0);
        C.due("character(0)", x.character(0), '0');
        C.due("character(1)", x.character(1), '=');
        C.due("character(2)", x.character(2), '7');
        C.due("character(3)", x.character(3), NONE);
        C.due("character(-1)", x.character(-1), NONE);
        C.due("character(most)", x.character(Integer.MAX_VALUE), NONE);
        C.due("character(least)", x.character(Integer.MIN_VALUE), NONE);
        x.undo();
        C.due("undo leaves the line", x.character(2), '7');
        x.save();
        x.restore();
        C.due("restore leaves the line", x.character(2), '7');
        x.tellAll();
        C.due("an empty line in place of it", x.character(0), NONE);
    }
}
