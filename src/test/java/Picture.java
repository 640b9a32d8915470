/** All that can be asked of an object, as a text; asking for it changes nothing. */
final class Picture {
    private Picture() {
    }

    /** All but the reason and its detail, the text, the line, and how many changes can be undone. */
    static String ofChanges(TrousseauFlow x) {
        StringBuilder text = new StringBuilder();
        for (int what = 0; what <= 16; what++) {
            put(text, x.account(what));
        }
        for (int i = 0; i < x.account(1); i++) {
            text.append("| step ");
            for (int what = 0; what <= 9; what++) {
                put(text, x.stepOf(i, what));
            }
            put(text, x.ready(i));
            put(text, x.doneIn(i));
            put(text, x.chain(i));
            put(text, x.chainAgain(i));
            put(text, x.ranked(i));
        }
        for (int k = 0; k < x.account(11); k++) {
            text.append("| milestone ");
            for (int what = 0; what <= 3; what++) {
                put(text, x.milestoneOf(k, what));
            }
        }
        text.append("| log ");
        for (int k = 0; k <= 16; k++) {
            text.append(Check.event(x, k)).append(", ");
        }
        put(text, x.late());
        put(text, x.isBalanced());
        text.append(x.meanDays()).append(' ').append(x.wrongShare());
        return text.toString();
    }

    /** The length of the text, how many changes can be undone, and the line. */
    static String ofTheRest(TrousseauFlow x) {
        StringBuilder text = new StringBuilder();
        put(text, x.account(17));
        put(text, x.account(18));
        text.append("| line ");
        for (int k = 0; k <= 64; k++) {
            put(text, x.character(k));
        }
        return text.toString();
    }

    static String ofReason(TrousseauFlow x) {
        return x.reason(false) + " " + x.reason(true);
    }

    private static void put(StringBuilder text, int number) {
        text.append(number).append(' ');
    }
}
