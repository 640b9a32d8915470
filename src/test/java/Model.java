import java.util.ArrayDeque;
import java.util.ArrayList;
import java.util.Collections;
import java.util.Comparator;
import java.util.List;
import java.util.TreeSet;
import java.util.regex.Matcher;
import java.util.regex.Pattern;

/**
 * The document a second time, with lists, sets and patterns, for the random runs to compare with.
 * Plain on purpose, and as unlike the class as may be: whole worlds are copied, nothing is cut short.
 */
final class Model {
    private static final int NONE = -11;
    private static final int BAD = -12;
    private static final int FULL = -13;
    private static final int REFUSED = -14;
    private static final int NOTHING = -15;
    private static final String ORDER = "(?:step \\d \\d \\d\\??|need \\d{1,2} \\d{1,2}|fault \\d{1,2}\\*\\d"
        + "|hands \\d|cancel \\d|mile \\d{1,2}@\\d{1,3}|day \\d{1,2})";
    private static final Pattern TEXT = Pattern.compile(ORDER + "(?:;" + ORDER + ")*");

    private enum How { WAITS, RUNS, RESTS, DONE, BEING_UNDONE, UNDONE, LEFT_OUT, FAILED }

    private static final class Step {
        int number;
        int days;
        int more;
        int branch;
        boolean any;
        How how = How.WAITS;
        int left;
        int begun;
        int wrong;
        int doneDay = NOTHING;
        TreeSet<Integer> needs = new TreeSet<>();

        Step copy() {
            Step s = new Step();
            s.number = number;
            s.days = days;
            s.more = more;
            s.branch = branch;
            s.any = any;
            s.how = how;
            s.left = left;
            s.begun = begun;
            s.wrong = wrong;
            s.doneDay = doneDay;
            s.needs = new TreeSet<>(needs);
            return s;
        }

        boolean open() {
            return how == How.WAITS || how == How.RUNS || how == How.RESTS;
        }

        boolean off() {
            return !open() && how != How.DONE;
        }
    }

    private static final class World {
        List<Step> steps = new ArrayList<>();
        List<int[]> miles = new ArrayList<>();
        List<int[]> log = new ArrayList<>();
        List<Integer> doneOrder = new ArrayList<>();
        TreeSet<Integer> cancelled = new TreeSet<>();
        int day;
        int hands = 2;

        World copy() {
            World w = new World();
            for (Step s : steps) {
                w.steps.add(s.copy());
            }
            w.miles.addAll(miles);
            w.log.addAll(log);
            w.doneOrder.addAll(doneOrder);
            w.cancelled.addAll(cancelled);
            w.day = day;
            w.hands = hands;
            return w;
        }

        void log(int what, Step s) {
            log.add(new int[] {what, s.number, day});
        }

        int events(int what) {
            int sum = 0;
            for (int[] event : log) {
                sum += event[0] == what ? 1 : 0;
            }
            return sum;
        }

        int many(How how) {
            int sum = 0;
            for (Step s : steps) {
                sum += s.how == how ? 1 : 0;
            }
            return sum;
        }

        boolean ready(Step s) {
            if (s.needs.isEmpty()) {
                return true;
            }
            int done = 0;
            for (int k : s.needs) {
                done += steps.get(k).how == How.DONE ? 1 : 0;
            }
            return s.any ? done > 0 : done == s.needs.size();
        }

        boolean hopeless(Step s) {
            if (!s.open() || s.how == How.RUNS) {
                return false;
            }
            int off = 0;
            for (int k : s.needs) {
                off += steps.get(k).off() ? 1 : 0;
            }
            return s.any ? !s.needs.isEmpty() && off == s.needs.size() : off > 0;
        }

        int cancel(int branch) {
            cancelled.add(branch);
            int sum = 0;
            for (Step s : steps) {
                if (s.branch == branch && s.open()) {
                    leaveOut(s);
                } else if (s.branch == branch && s.how == How.DONE) {
                    s.how = How.BEING_UNDONE;
                    s.left = s.days / 2 + s.days % 2;
                    sum++;
                }
            }
            return sum;
        }

        void leaveOut(Step s) {
            s.how = How.LEFT_OUT;
            s.left = 0;
            log(5, s);
        }

        void day() {
            for (Step s : steps) {
                if (s.how == How.RUNS && --s.left == 0) {
                    endTry(s);
                }
            }
            for (int branch : cancelled) {
                for (int k = doneOrder.size() - 1; k >= 0; k--) {
                    Step s = steps.get(doneOrder.get(k));
                    if (s.branch == branch && s.how == How.BEING_UNDONE) {
                        s.left--;
                        if (s.left == 0) {
                            s.how = How.UNDONE;
                            log(4, s);
                        }
                        break;
                    }
                }
            }
            boolean isOne = true;
            while (isOne) {
                isOne = false;
                for (Step s : steps) {
                    if (hopeless(s)) {
                        leaveOut(s);
                        isOne = true;
                        break;
                    }
                }
            }
            begin();
            day++;
        }

        void endTry(Step s) {
            if (s.wrong == 0) {
                s.how = How.DONE;
                s.doneDay = day;
                doneOrder.add(s.number);
                log(1, s);
                return;
            }
            s.wrong--;
            if (s.begun < 1 + s.more) {
                s.how = How.RESTS;
                log(2, s);
                return;
            }
            s.how = How.FAILED;
            log(3, s);
            if (s.branch > 0 && !cancelled.contains(s.branch)) {
                cancel(s.branch);
            }
        }

        int mile(int step) {
            for (int[] mile : miles) {
                if (mile[0] == step) {
                    return mile[1];
                }
            }
            return Integer.MAX_VALUE;
        }

        void begin() {
            List<Step> queue = new ArrayList<>();
            for (Step s : steps) {
                if ((s.how == How.WAITS || s.how == How.RESTS) && ready(s)) {
                    queue.add(s);
                }
            }
            queue.sort(Comparator.comparingInt((Step s) -> mile(s.number)).thenComparingInt(s -> s.number));
            for (Step s : queue) {
                if (many(How.RUNS) >= hands) {
                    break;
                }
                s.how = How.RUNS;
                s.left = s.days;
                s.begun++;
                log(0, s);
            }
        }

        int late(int place) {
            int[] mile = miles.get(place);
            Step s = steps.get(mile[0]);
            int end = s.how == How.DONE ? s.doneDay : day;
            return end > mile[1] ? end - mile[1] : 0;
        }

        boolean reaches(int from, int sought) {
            if (from == sought) {
                return true;
            }
            for (int k : steps.get(from).needs) {
                if (reaches(k, sought)) {
                    return true;
                }
            }
            return false;
        }

        int chain(int step) {
            int most = 0;
            for (int k : steps.get(step).needs) {
                most = Math.max(most, chain(k));
            }
            return most + steps.get(step).days;
        }
    }

    private World w = new World();
    private World saved;
    private final ArrayDeque<World> past = new ArrayDeque<>();
    private String text = "";
    private String line = "";
    private int reason = NOTHING;
    private int detail = NOTHING;

    private int change(int kind, int a, int b, int c, boolean any) {
        World before = w.copy();
        int answer = carryOut(kind, a, b, c, any);
        if (answer >= 0) {
            keep(before);
        }
        return answer;
    }

    private void keep(World before) {
        past.addLast(before);
        if (past.size() > 8) {
            past.removeFirst();
        }
    }

    private int refuse(int why, int what) {
        reason = why;
        detail = what;
        return REFUSED;
    }

    private boolean no(int step) {
        return step < 0 || step >= w.steps.size();
    }

    private int carryOut(int kind, int a, int b, int c, boolean any) {
        switch (kind) {
            case 's':
                return tellStep(a, b, c, any);
            case 'n':
                return tellNeed(a, b);
            case 'f':
                return tellFault(a, b);
            case 'h':
                if (a < 1 || a > 4) {
                    return BAD;
                }
                int hands = w.hands;
                w.hands = a;
                return hands;
            case 'c':
                if (a < 1 || a > 3) {
                    return NONE;
                }
                return w.cancelled.contains(a) ? refuse(3, a) : w.cancel(a);
            case 'm':
                return tellMile(a, b);
            default:
                return letGo(a);
        }
    }

    private int tellStep(int days, int more, int branch, boolean any) {
        if (days < 1 || days > 9 || more < 0 || more > 3 || branch < 0 || branch > 3) {
            return BAD;
        }
        if (w.steps.size() == 12) {
            return refuse(1, 12);
        }
        Step s = new Step();
        s.number = w.steps.size();
        s.days = days;
        s.more = more;
        s.branch = branch;
        s.any = any;
        w.steps.add(s);
        if (w.cancelled.contains(branch)) {
            w.leaveOut(s);
        }
        return s.number;
    }

    private int tellNeed(int step, int other) {
        if (no(step) || no(other)) {
            return NONE;
        }
        Step s = w.steps.get(step);
        if (step == other) {
            return refuse(2, step);
        }
        if (s.how != How.WAITS) {
            return refuse(5, s.how.ordinal());
        }
        if (s.needs.contains(other)) {
            return refuse(3, other);
        }
        if (w.reaches(other, step)) {
            return refuse(4, other);
        }
        s.needs.add(other);
        return s.needs.size();
    }

    private int tellFault(int step, int many) {
        if (no(step)) {
            return NONE;
        }
        if (many < 1 || many > 9) {
            return BAD;
        }
        Step s = w.steps.get(step);
        if (!s.open()) {
            return refuse(5, s.how.ordinal());
        }
        s.wrong += many;
        return s.wrong;
    }

    private int tellMile(int step, int day) {
        if (no(step)) {
            return NONE;
        }
        if (day < 1 || day > 999) {
            return BAD;
        }
        for (int[] mile : w.miles) {
            if (mile[0] == step) {
                return refuse(3, mile[1]);
            }
        }
        if (w.miles.size() == 4) {
            return refuse(1, 4);
        }
        w.miles.add(new int[] {step, day});
        return w.miles.size() - 1;
    }

    private int letGo(int days) {
        if (days < 1 || days > 30) {
            return BAD;
        }
        int before = w.doneOrder.size();
        for (int k = 0; k < days; k++) {
            w.day();
        }
        return w.doneOrder.size() - before;
    }

    int step(int days, int more, int branch, boolean any) {
        return change('s', days, more, branch, any);
    }

    int need(int step, int other) {
        return change('n', step, other, 0, false);
    }

    int fault(int step, int many) {
        return change('f', step, many, 0, false);
    }

    int hands(int many) {
        return change('h', many, 0, 0, false);
    }

    int cancel(int branch) {
        return change('c', branch, 0, 0, false);
    }

    int milestone(int step, int day) {
        return change('m', step, day, 0, false);
    }

    int days(int days) {
        return change('d', days, 0, 0, false);
    }

    int stepOf(int step, int what) {
        if (no(step)) {
            return NONE;
        }
        Step s = w.steps.get(step);
        int set = 0;
        for (int k : s.needs) {
            set += 1 << k;
        }
        int[] all = {s.days, s.more, s.branch, s.any ? 1 : 0, s.how.ordinal(),
            s.how == How.RUNS || s.how == How.BEING_UNDONE ? s.left : 0, s.begun, s.wrong, s.doneDay, set};
        return what < 0 || what > 9 ? BAD : all[what];
    }

    int ready(int step) {
        if (no(step)) {
            return NONE;
        }
        return w.ready(w.steps.get(step)) ? 1 : 0;
    }

    int milestoneOf(int place, int what) {
        if (place < 0 || place >= w.miles.size()) {
            return NONE;
        }
        int[] mile = w.miles.get(place);
        Step s = w.steps.get(mile[0]);
        int[] all = {mile[0], mile[1], s.how == How.DONE ? s.doneDay : NOTHING, w.late(place)};
        return what < 0 || what > 3 ? BAD : all[what];
    }

    int late() {
        int sum = 0;
        for (int k = 0; k < w.miles.size(); k++) {
            sum += w.late(k);
        }
        return sum;
    }

    int doneIn(int step) {
        if (no(step)) {
            return NONE;
        }
        World ahead = w.copy();
        for (int days = 0; days <= 200; days++) {
            if (ahead.steps.get(step).how == How.DONE) {
                return days;
            }
            ahead.day();
        }
        return NOTHING;
    }

    int chain(int step) {
        return no(step) ? NONE : w.chain(step);
    }

    int logged(int place, int what) {
        if (place < 0 || place > 15 || place >= w.log.size()) {
            return NONE;
        }
        return what < 0 || what > 2 ? BAD : w.log.get(w.log.size() - 1 - place)[what];
    }

    int ranked(int place) {
        List<Step> order = new ArrayList<>(w.steps);
        Collections.reverse(order);
        order.sort(Comparator.comparingInt((Step s) -> -s.begun).thenComparingInt(s -> -s.days)
            .thenComparingInt(s -> s.number));
        return no(place) ? NONE : order.get(place).number;
    }

    int append(int code) {
        if (code < 32 || code > 126) {
            return BAD;
        }
        if (text.length() == 60) {
            return FULL;
        }
        text += (char) code;
        return text.length();
    }

    int run() {
        String all = text;
        text = "";
        if (!TEXT.matcher(all).matches()) {
            return -1000 - faultPosition(all);
        }
        World before = w.copy();
        String[] orders = all.split(";");
        for (int k = 0; k < orders.length; k++) {
            String[] parts = orders[k].replace("?", "").split("[ *@]");
            int[] n = new int[3];
            for (int i = 1; i < parts.length; i++) {
                n[i - 1] = Integer.parseInt(parts[i]);
            }
            if (carryOut(orders[k].charAt(0), n[0], n[1], n[2], orders[k].endsWith("?")) < 0) {
                w = before;
                return refuse(6, k);
            }
        }
        keep(before);
        return orders.length;
    }

    /** The longest start with which a right text can begin ends at the fault. */
    private static int faultPosition(String all) {
        for (int k = 1; k <= all.length(); k++) {
            Matcher start = TEXT.matcher(all.substring(0, k));
            if (!start.matches() && !start.hitEnd()) {
                return k - 1;
            }
        }
        return all.length();
    }

    int tell(int step) {
        if (no(step)) {
            return NONE;
        }
        Step s = w.steps.get(step);
        line = step + "=" + s.days + (s.more > 0 ? "*" + s.more : "") + (s.any ? "?" : "")
            + (s.branch > 0 ? "/" + s.branch : "");
        for (int k : s.needs) {
            line += "<" + k;
        }
        return line.length();
    }

    int tellAll() {
        line = "";
        for (Step s : w.steps) {
            line += "wrzduxof".charAt(s.how.ordinal());
        }
        return line.length();
    }

    int character(int index) {
        return index < 0 || index >= line.length() ? NONE : line.charAt(index);
    }

    int reason(boolean isDetail) {
        return isDetail ? detail : reason;
    }

    int account(int what) {
        if (what < 0 || what > 18) {
            return BAD;
        }
        if (what >= 2 && what <= 9) {
            return w.many(How.values()[what - 2]);
        }
        int set = 0;
        for (int branch : w.cancelled) {
            set += 1 << branch;
        }
        int[] all = {w.day, w.steps.size(), 0, 0, 0, 0, 0, 0, 0, 0, w.hands, w.miles.size(), set, w.events(0),
            w.events(2) + w.events(3), w.doneOrder.size(), w.events(4), text.length(), past.size()};
        return all[what];
    }

    double meanDays() {
        double sum = 0;
        for (Step s : w.steps) {
            sum += s.days;
        }
        return w.steps.isEmpty() ? 0.0 : sum / w.steps.size();
    }

    float wrongShare() {
        return account(13) == 0 ? 0.0f : (float) account(14) / account(13);
    }

    int undo() {
        if (past.isEmpty()) {
            return NOTHING;
        }
        w = past.removeLast();
        return past.size();
    }

    int save() {
        saved = w.copy();
        return w.day;
    }

    int restore() {
        if (saved == null) {
            return NOTHING;
        }
        w = saved.copy();
        past.clear();
        return w.day;
    }
}
