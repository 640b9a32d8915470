/** What the tests share: answers compared, texts run, lines read. */
final class Check {
    static final int NONE = -11;
    static final int BAD = -12;
    static final int FULL = -13;
    static final int REFUSED = -14;
    static final int NOTHING = -15;

    private final String name;
    private int made;
    private int wrong;

    Check(String name) {
        this.name = name;
    }

    void due(String call, long got, long want) {
        made++;
        if (got != want) {
            wrong++;
            System.out.println(name + ": " + call + " answered " + got + ", due is " + want);
        }
    }

    void dueNumber(String call, double got, double want) {
        made++;
        if (Double.compare(got, want) != 0) {
            wrong++;
            System.out.println(name + ": " + call + " answered " + got + ", due is " + want);
        }
    }

    void dueText(String call, String got, String want) {
        made++;
        if (!got.equals(want)) {
            wrong++;
            System.out.println(name + ": " + call + " answered " + got + ", due is " + want);
        }
    }

    /** A refusal: the code, then the reason and its detail. */
    void refused(String call, TrousseauFlow x, int got, int reason, int detail) {
        due(call, got, REFUSED);
        due(call + ", its reason", x.reason(false), reason);
        due(call + ", its detail", x.reason(true), detail);
    }

    /** How all steps are, as letters. */
    void letters(String when, TrousseauFlow x, String want) {
        dueText("letters " + when, all(x), want);
    }

    void end() {
        System.out.println(name + ": " + made + " answers, " + wrong + " not as due");
        if (wrong != 0 || made == 0) {
            System.exit(1);
        }
    }

    static int run(TrousseauFlow x, String text) {
        for (int i = 0; i < text.length(); i++) {
            x.append(text.charAt(i));
        }
        return x.run();
    }

    static String all(TrousseauFlow x) {
        return read(x, x.tellAll());
    }

    static String line(TrousseauFlow x, int step) {
        return read(x, x.tell(step));
    }

    /** An event as "what step day". */
    static String event(TrousseauFlow x, int place) {
        return x.logged(place, 0) + " " + x.logged(place, 1) + " " + x.logged(place, 2);
    }

    private static String read(TrousseauFlow x, int length) {
        StringBuilder text = new StringBuilder();
        for (int i = 0; i < length; i++) {
            text.append((char) x.character(i));
        }
        return text.toString();
    }
}
