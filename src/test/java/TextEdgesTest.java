/** Texts sign by sign, their digits, their lengths, and the numbers of their orders at the edges of their ranges. */
final class TextEdgesTest {
    private static final int REFUSED = Check.REFUSED;
    private static final int FULL = Check.FULL;
    private static final int NONE = Check.NONE;
    private static final String DIGITS = "0123456789";
    private static final String KINDS = "snfhcmd";
    private static final String WHOLE = "step \\d \\d \\d\\??|need \\d\\d? \\d\\d?|fault \\d\\d?\\*\\d|hands \\d|cancel \\d"
        + "|mile \\d\\d?@\\d\\d?\\d?|day \\d\\d?";
    private static final Check C = new Check("TextEdgesTest");

    /** Starts of orders, and the signs with which such a text can continue: "9" stands for any digit. */
    private static final String[][] NEXT = {
        {"", KINDS}, {"s", "t"}, {"st", "e"}, {"ste", "p"}, {"step", " "}, {"step ", "9"}, {"step 1", " "},
        {"step 1 ", "9"}, {"step 1 0", " "}, {"step 1 0 ", "9"}, {"step 1 0 0", "?;"}, {"step 1 0 0?", ";"},
        {"n", "e"}, {"ne", "e"}, {"nee", "d"}, {"need", " "}, {"need ", "9"}, {"need 1", "9 "}, {"need 11", " "},
        {"need 1 ", "9"}, {"need 11 ", "9"}, {"need 1 2", "9;"}, {"need 1 22", ";"}, {"need 11 22", ";"},
        {"f", "a"}, {"fa", "u"}, {"fau", "l"}, {"faul", "t"}, {"fault", " "}, {"fault ", "9"}, {"fault 1", "9*"},
        {"fault 11", "*"}, {"fault 1*", "9"}, {"fault 11*", "9"}, {"fault 1*1", ";"}, {"fault 11*1", ";"},
        {"h", "a"}, {"ha", "n"}, {"han", "d"}, {"hand", "s"}, {"hands", " "}, {"hands ", "9"}, {"hands 1", ";"},
        {"c", "a"}, {"ca", "n"}, {"can", "c"}, {"canc", "e"}, {"cance", "l"}, {"cancel", " "}, {"cancel ", "9"},
        {"cancel 1", ";"}, {"m", "i"}, {"mi", "l"}, {"mil", "e"}, {"mile", " "}, {"mile ", "9"}, {"mile 1", "9@"},
        {"mile 11", "@"}, {"mile 1@", "9"}, {"mile 11@", "9"}, {"mile 1@1", "9;"}, {"mile 1@11", "9;"},
        {"mile 1@111", ";"}, {"mile 11@111", ";"}, {"d", "a"}, {"da", "y"}, {"day", " "}, {"day ", "9"},
        {"day 1", "9;"}, {"day 11", ";"},
    };

    public static void main(String[] args) {
        for (String[] row : NEXT) {
            everyNextSign("", row[0], row[1]);
            everyNextSign("hands 2;", row[0], row[1]);
            everyNextSign("step 9 3 3?;need 11 10;mile 00@000;day 30;", row[0], row[1]);
        }
        numbersOfOrders();
        lengths();
        manyOrders();
        C.end();
    }

    /** What follows a start: each sign there is, alone, and with a right order or with nothing right behind it. */
    private static void everyNextSign(String ahead, String start, String next) {
        int at = ahead.length() + start.length();
        ends(ahead + start, start.matches(WHOLE), at);
        for (char sign = 32; sign <= 126; sign++) {
            boolean isDigit = DIGITS.indexOf(sign) >= 0;
            boolean canContinue = next.indexOf(isDigit ? '9' : sign) >= 0;
            String text = ahead + start + sign;
            if (!canContinue) {
                wrongAt(text, at);
                wrongAt(text + ";day 1", at);
                wrongAt(text + "~", at);
            } else {
                ends(text, (start + sign).matches(WHOLE), at + 1);
                wrongAt(text + "~", at + 1);
            }
        }
    }

    private static void wrongAt(String text, int position) {
        if (text.length() <= 60) {
            C.due("\"" + text + "\"", Check.run(new TrousseauFlow(), text), -1000 - position);
        }
    }

    private static void ends(String text, boolean isWhole, int position) {
        int answer = Check.run(new TrousseauFlow(), text);
        if (isWhole) {
            C.due("\"" + text + "\" is right", answer > 0 || answer == REFUSED ? 1 : answer, 1);
        } else {
            C.due("\"" + text + "\" ends too early", answer, -1000 - position);
        }
    }

    /** Twelve steps less one; the last one may be told. */
    private static TrousseauFlow eleven() {
        TrousseauFlow x = new TrousseauFlow();
        for (int i = 0; i < 11; i++) {
            x.step(1, 0, 0, false);
        }
        return x;
    }

    private static void right(String text) {
        TrousseauFlow x = eleven();
        C.due("\"" + text + "\"", Check.run(x, text), 1);
        C.due("\"" + text + "\" is a change", x.account(18), 8);
        C.due("\"" + text + "\" is no reason", x.reason(false), Check.NOTHING);
    }

    private static void refused(String text) {
        TrousseauFlow x = eleven();
        C.refused("\"" + text + "\"", x, Check.run(x, text), 6, 0);
        C.dueText("\"" + text + "\" changes nothing", Picture.ofChanges(x), Picture.ofChanges(eleven()));
    }

    private static void numbersOfOrders() {
        for (int digit = 0; digit <= 9; digit++) {
            either("step " + digit + " 0 0", digit >= 1);
            either("step 1 " + digit + " 0", digit <= 3);
            either("step 1 0 " + digit, digit <= 3);
            either("step 1 0 " + digit + "?", digit <= 3);
            either("fault 0*" + digit, digit >= 1);
            either("hands " + digit, digit >= 1 && digit <= 4);
            either("cancel " + digit, digit >= 1 && digit <= 3);
        }
        for (int number = 0; number <= 99; number++) {
            String two = number < 10 ? "0" + number : "" + number;
            either("day " + number, number >= 1 && number <= 30);
            either("day " + two, number >= 1 && number <= 30);
            either("need " + number + " 0", number >= 1 && number <= 10);
            either("need " + two + " 00", number >= 1 && number <= 10);
            either("need 0 " + number, number >= 1 && number <= 10);
            either("need 00 " + two, number >= 1 && number <= 10);
            either("fault " + number + "*1", number <= 10);
            either("fault " + two + "*9", number <= 10);
            either("mile " + number + "@1", number <= 10);
            either("mile " + two + "@999", number <= 10);
        }
        for (int day = 0; day <= 999; day++) {
            either("mile 0@" + day, day >= 1);
        }
        either("mile 0@000", false);
        either("mile 0@00", false);
        either("mile 0@001", true);
        either("mile 0@01", true);
        TrousseauFlow x = eleven();
        Check.run(x, "step 9 3 2?;need 11 10;need 00 11;fault 10*9;mile 11@040");
        int[] due = {9, 3, 2, 1, 0, 0, 0, 0, Check.NOTHING, 1 << 10};
        for (int what = 0; what < due.length; what++) {
            C.due("the step that was told, " + what, x.stepOf(11, what), due[what]);
        }
        C.due("the need", x.stepOf(0, 9), 1 << 11);
        C.due("the fault", x.stepOf(10, 7), 9);
        C.due("the milestone", x.milestoneOf(0, 0), 11);
        C.due("its day", x.milestoneOf(0, 1), 40);
    }

    private static void either(String text, boolean isRight) {
        if (isRight) {
            right(text);
        } else {
            refused(text);
        }
    }

    private static void lengths() {
        String sixty = "hands 1;hands 2;hands 3;hands 4;hands 1;hands 2;day 1;day 12";
        C.due("sixty signs", sixty.length(), 60);
        for (int length = 0; length <= 60; length++) {
            TrousseauFlow x = new TrousseauFlow();
            String text = sixty.substring(0, length);
            C.due("the text is empty", x.account(17), 0);
            for (int k = 0; k < length; k++) {
                C.due("sign " + k, x.append(text.charAt(k)), k + 1);
            }
            C.due("its length", x.account(17), length);
            String last = text.substring(text.lastIndexOf(';') + 1);
            boolean isWhole = last.matches(WHOLE);
            int orders = text.length() - text.replace(";", "").length() + 1;
            C.due("run of " + length, x.run(), isWhole ? orders : -1000 - length);
            C.due("emptied", x.account(17), 0);
            C.due("run again", x.run(), -1000);
        }
        TrousseauFlow y = new TrousseauFlow();
        for (int k = 0; k < 60; k++) {
            y.append(sixty.charAt(k));
        }
        C.due("full", y.append('3'), FULL);
        C.due("full again", y.append(';'), FULL);
        C.due("still sixty", y.account(17), 60);
        C.due("carried out without what was refused", y.run(), 8);
        C.due("the day", y.account(0), 13);
        C.due("room again", y.append('d'), 1);
        y.undo();
        C.due("undo leaves the text", y.account(17), 1);
        C.due("the day", y.account(0), 0);
        y.append('a');
        y.save();
        y.append('y');
        y.restore();
        C.due("restore leaves the text", y.account(17), 3);
        C.due("which goes on", Check.run(y, " 7"), 1);
        C.due("the day then", y.account(0), 7);
        wrongAt("day 1;day 1;day 1;day 1;day 1;day 1;day 1;day 1;day 1;day 1;", 60);
        wrongAt("hands 1;hands 2;hands 3;hands 4;hands 1;hands 2;hands 3;hand", 60);
        wrongAt("hands 1;hands 2;hands 3;hands 4;hands 1;hands 2;day 1;day 1x", 59);
        wrongAt("hands 1;hands 2;hands 3;hands 4;hands 1;hands 2;day 1;day 1 ", 59);
        wrongAt("~ands 1;hands 2;hands 3;hands 4;hands 1;hands 2;day 1;day 12", 0);
    }

    /** All or none: as many orders as a text can have, of which each in turn cannot be carried out. */
    private static void manyOrders() {
        for (int bad = 0; bad <= 10; bad++) {
            StringBuilder text = new StringBuilder();
            for (int k = 0; k < 10; k++) {
                text.append(k == 0 ? "" : ";").append(k == bad ? "day 0" : "day 2");
            }
            TrousseauFlow x = new TrousseauFlow();
            x.step(3, 0, 0, false);
            if (bad < 10) {
                C.refused("the order " + bad, x, Check.run(x, text.toString()), 6, bad);
                C.due("no day", x.account(0), 0);
                C.due("no event", x.logged(0, 0), NONE);
                C.due("one change", x.account(18), 1);
            } else {
                C.due("all orders", Check.run(x, text.toString()), 10);
                C.due("all days", x.account(0), 20);
                C.due("two changes", x.account(18), 2);
                C.due("undone at once", x.undo(), 1);
                C.due("no day", x.account(0), 0);
            }
        }
        TrousseauFlow x = new TrousseauFlow();
        C.refused("a reason of an order is not kept", x, Check.run(x, "cancel 1;cancel 1"), 6, 1);
        C.refused("nor the first of two", x, Check.run(x, "step 1 0 0;need 0 0;need 0 0"), 6, 1);
        C.refused("a number out of range", x, Check.run(x, "hands 3;hands 5"), 6, 1);
        C.refused("no such step", x, Check.run(x, "step 1 0 0;step 1 0 0;need 1 2"), 6, 2);
        C.due("a step of the text", Check.run(x, "step 1 0 0;step 1 0 0;need 1 0;fault 1*1;mile 1@5"), 5);
        C.due("with its need", x.stepOf(1, 9), 1);
    }
}
