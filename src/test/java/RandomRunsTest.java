import java.util.Random;

/** Long runs of calls, the same each time, compared call by call with the model. */
final class RandomRunsTest {
    private static final int RUNS = 3000;
    private static final int CALLS = 512;
    private static final int[] ODD = {-1, -2, 0, 12, 13, 31, 32, 64, 999, 1000, Integer.MIN_VALUE, Integer.MAX_VALUE};
    private static final String SIGNS = "sneedfaulthcimy 0123456789;*@? xQ~";

    private final Check check = new Check("RandomRunsTest");
    private Random random;
    private TrousseauFlow x;
    private Model m;
    private int flavour;

    public static void main(String[] args) {
        RandomRunsTest test = new RandomRunsTest();
        int runs = args.length > 0 ? Integer.parseInt(args[0]) : RUNS;
        for (int run = 0; run < runs; run++) {
            test.oneRun(run);
        }
        test.check.end();
    }

    private void oneRun(int seed) {
        random = new Random(seed);
        x = new TrousseauFlow();
        m = new Model();
        flavour = random.nextInt(4);
        int calls = 0;
        while (calls < CALLS) {
            calls += oneCall("run " + seed + ", call " + calls);
        }
    }

    private int below(int most) {
        return random.nextInt(most);
    }

    /** A number from the range, or now and then an odd one. */
    private int from(int least, int most) {
        return below(40) == 0 ? ODD[below(ODD.length)] : least + below(most - least + 1);
    }

    private int aStep() {
        int count = m.account(1);
        return below(30) == 0 || count == 0 ? from(-1, 12) : below(count);
    }

    private int oneCall(String at) {
        int kind = below(100);
        if (kind < 45) {
            change(at);
            return 1;
        }
        if (kind < 48 && flavour != 0) {
            return text(at);
        }
        if (kind < 50) {
            check.due(at + " undo", x.undo(), m.undo());
            return 1;
        }
        if (kind < 51) {
            check.due(at + " save", x.save(), m.save());
            return 1;
        }
        if (kind < 52) {
            check.due(at + " restore", x.restore(), m.restore());
            return 1;
        }
        question(at);
        return 1;
    }

    private void change(String at) {
        int a = aStep();
        int b = aStep();
        switch (below(flavour == 1 ? 20 : 14)) {
            case 0:
            case 1:
            case 2: {
                int days = from(1, flavour == 2 ? 3 : 9);
                int more = from(0, 3);
                int branch = from(0, 3);
                boolean any = random.nextBoolean();
                check.due(at + " step", x.step(days, more, branch, any), m.step(days, more, branch, any));
                break;
            }
            case 3:
            case 4:
            case 5:
            case 6:
                check.due(at + " need " + a + " " + b, x.need(a, b), m.need(a, b));
                break;
            case 7: {
                int many = from(1, flavour == 3 ? 9 : 2);
                check.due(at + " fault", x.fault(a, many), m.fault(a, many));
                break;
            }
            case 8: {
                int many = from(1, 4);
                check.due(at + " hands", x.hands(many), m.hands(many));
                break;
            }
            case 9: {
                if (below(3) > 0) {
                    break;
                }
                int branch = from(0, 4);
                check.due(at + " cancel " + branch, x.cancel(branch), m.cancel(branch));
                break;
            }
            case 10: {
                int day = from(1, below(2) == 0 ? 12 : 999);
                check.due(at + " milestone", x.milestone(a, day), m.milestone(a, day));
                break;
            }
            default: {
                int days = from(1, flavour == 2 || below(20) > 0 ? 2 : 30);
                check.due(at + " days " + days, x.days(days), m.days(days));
                break;
            }
        }
    }

    private String order() {
        switch (below(7)) {
            case 0:
                return "step " + below(10) + " " + below(4) + " " + below(4) + (below(2) == 0 ? "?" : "");
            case 1:
                return "need " + below(12) + " " + below(12);
            case 2:
                return "fault " + below(12) + "*" + below(10);
            case 3:
                return "hands " + (1 + below(5));
            case 4:
                return "cancel " + below(4);
            case 5:
                return "mile " + (below(2) == 0 ? "0" : "") + below(10) + "@" + below(1000);
            default:
                return "day " + (below(2) == 0 ? "0" : "") + below(10);
        }
    }

    private int text(String at) {
        StringBuilder text = new StringBuilder(order());
        int more = below(4);
        for (int k = 0; k < more; k++) {
            text.append(';').append(order());
        }
        int ways = below(4);
        if (ways == 0) {
            text.setCharAt(below(text.length()), SIGNS.charAt(below(SIGNS.length())));
        } else if (ways == 1) {
            text.setLength(below(text.length() + 1));
        } else if (ways == 2 && below(3) == 0) {
            text.insert(below(text.length()), SIGNS.charAt(below(SIGNS.length())));
        }
        for (int k = 0; k < text.length(); k++) {
            check.due(at + " append", x.append(text.charAt(k)), m.append(text.charAt(k)));
        }
        check.due(at + " run " + text, x.run(), m.run());
        return text.length() + 1;
    }

    private void question(String at) {
        int a = aStep();
        int what = from(-1, 10);
        switch (below(18)) {
            case 0:
            case 1:
                check.due(at + " stepOf " + a + " " + what, x.stepOf(a, what), m.stepOf(a, what));
                break;
            case 2:
                check.due(at + " ready " + a, x.ready(a), m.ready(a));
                break;
            case 3: {
                int place = from(-1, 4);
                int which = from(-1, 4);
                check.due(at + " milestoneOf", x.milestoneOf(place, which), m.milestoneOf(place, which));
                break;
            }
            case 4:
                check.due(at + " late", x.late(), m.late());
                break;
            case 5:
                check.due(at + " doneIn " + a, x.doneIn(a), m.doneIn(a));
                break;
            case 6:
                check.due(at + " chain " + a, x.chain(a), m.chain(a));
                check.due(at + " chainAgain " + a, x.chainAgain(a), m.chain(a));
                break;
            case 7:
            case 8: {
                int place = from(-1, 16);
                int which = from(-1, 3);
                check.due(at + " logged " + place + " " + which, x.logged(place, which), m.logged(place, which));
                break;
            }
            case 9:
                check.due(at + " ranked " + a, x.ranked(a), m.ranked(a));
                break;
            case 10:
                check.due(at + " tell " + a, x.tell(a), m.tell(a));
                break;
            case 11:
                check.due(at + " tellAll", x.tellAll(), m.tellAll());
                break;
            case 12: {
                int index = from(-1, 12);
                check.due(at + " character " + index, x.character(index), m.character(index));
                break;
            }
            case 13: {
                boolean isDetail = random.nextBoolean();
                check.due(at + " reason", x.reason(isDetail), m.reason(isDetail));
                break;
            }
            case 14: {
                int which = from(-1, 19);
                check.due(at + " account " + which, x.account(which), m.account(which));
                break;
            }
            case 15:
                check.due(at + " isBalanced", x.isBalanced(), 1);
                break;
            case 16:
                check.dueNumber(at + " meanDays", x.meanDays(), m.meanDays());
                check.dueNumber(at + " wrongShare", x.wrongShare(), m.wrongShare());
                break;
            default: {
                int code = from(31, 127);
                check.due(at + " append " + code, x.append(code), m.append(code));
                break;
            }
        }
    }
}
