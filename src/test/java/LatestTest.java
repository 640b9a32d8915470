import java.util.ArrayList;
import java.util.List;

/** The latest changes and the latest events, as there are fewer, as many, and more of them than are kept. */
final class LatestTest {
    private static final int NONE = Check.NONE;
    private static final int NOTHING = Check.NOTHING;
    private static final int KEPT_CHANGES = 8;
    private static final int KEPT_EVENTS = 16;
    private static final Check C = new Check("LatestTest");

    public static void main(String[] args) {
        for (int count = 0; count <= 30; count++) {
            changesBack(count);
        }
        undoneAndChangedAgain();
        nothingDifferent();
        changesAfterRestore();
        noChanges();
        for (int days = 0; days <= 4; days++) {
            events(10, days);
            events(11, days);
        }
        eventsBack();
        C.end();
    }

    /** A change, another one each time, which differs from all before it. */
    private static void change(TrousseauFlow x, int number) {
        switch (number % 6) {
            case 0:
                x.step(1 + number % 9, number % 4, number / 6 % 4, number % 4 == 0);
                break;
            case 1:
                x.fault(number / 6, 1);
                break;
            case 2:
                x.hands(1 + number % 4);
                break;
            case 3:
                Check.run(x, "step 2 1 0;day 1");
                break;
            case 4:
                x.need(x.account(1) - 1, 0);
                break;
            default:
                x.days(1 + number % 3);
                break;
        }
    }

    private static void changesBack(int count) {
        TrousseauFlow x = new TrousseauFlow();
        List<String> before = new ArrayList<>();
        for (int number = 0; number < count; number++) {
            int kept = x.account(18);
            String picture = Picture.ofChanges(x);
            change(x, number);
            if (x.account(18) > kept || !Picture.ofChanges(x).equals(picture)) {
                before.add(picture);
            }
        }
        int kept = Math.min(KEPT_CHANGES, before.size());
        C.due("changes of " + before.size() + " that can be undone", x.account(18), kept);
        for (int k = 1; k <= kept; k++) {
            C.due("undo " + k + " of " + before.size(), x.undo(), kept - k);
            C.due("then can be undone", x.account(18), kept - k);
            C.dueText("as it was", Picture.ofChanges(x), before.get(before.size() - k));
        }
        C.due("no mark is left of " + before.size(), x.undo(), NOTHING);
        C.dueText("and it stays so", Picture.ofChanges(x), kept == 0 ? Picture.ofChanges(new TrousseauFlow())
            : before.get(before.size() - kept));
        C.due("still none", x.undo(), NOTHING);
    }

    private static void undoneAndChangedAgain() {
        TrousseauFlow x = new TrousseauFlow();
        List<Integer> days = new ArrayList<>();
        for (int round = 0; round < 12; round++) {
            for (int k = 0; k <= round; k++) {
                days.add(x.account(0));
                x.days(1 + (round + k) % 5);
            }
            int undone = Math.min(round % 7, x.account(18));
            for (int k = 0; k < undone; k++) {
                x.undo();
                C.due("back in round " + round, x.account(0), days.remove(days.size() - 1));
            }
        }
        int kept = x.account(18);
        C.due("the last round makes more than are kept, but four less", kept, KEPT_CHANGES - 4);
        for (int k = 1; k <= kept; k++) {
            C.due("back at last", x.undo(), kept - k);
            C.due("the day at last", x.account(0), days.remove(days.size() - 1));
        }
        C.due("none left", x.undo(), NOTHING);
    }

    /** Changes by which nothing is different are kept, too, and push the oldest out. */
    private static void nothingDifferent() {
        TrousseauFlow x = new TrousseauFlow();
        x.step(1, 0, 0, false);
        for (int k = 1; k <= 9; k++) {
            String before = Picture.ofChanges(x);
            C.due("the same hands", k % 2 == 0 ? x.hands(2) : Check.run(x, "hands 2"), k % 2 == 0 ? 2 : 1);
            C.dueText("nothing is different", Picture.ofChanges(x), before);
            C.due("it counts", x.account(18), Math.min(8, 1 + k));
        }
        for (int k = 7; k >= 0; k--) {
            C.due("undo", x.undo(), k);
            C.due("the step", x.account(1), 1);
        }
        C.due("the step cannot be undone any more", x.undo(), NOTHING);
        C.due("it stays", x.account(1), 1);
    }

    private static void changesAfterRestore() {
        TrousseauFlow x = new TrousseauFlow();
        C.due("save on the day 0", x.save(), 0);
        for (int k = 0; k < 9; k++) {
            x.days(1);
        }
        C.due("restore", x.restore(), 0);
        C.due("nothing can be undone", x.account(18), 0);
        C.due("undo", x.undo(), NOTHING);
        for (int k = 1; k <= 9; k++) {
            x.days(k);
            C.due("changes from then on", x.account(18), Math.min(8, k));
        }
        for (int k = 9; k >= 2; k--) {
            C.due("undo", x.undo(), k - 2);
            C.due("the day", x.account(0), k * (k - 1) / 2);
        }
        C.due("no more", x.undo(), NOTHING);
        C.due("restore again", x.restore(), 0);
        C.due("restore of what is so", x.restore(), 0);
    }

    /** Calls that are no changes: append, save, undo itself, all questions, and what is refused. */
    private static void noChanges() {
        TrousseauFlow x = new TrousseauFlow();
        x.step(1, 0, 0, false);
        x.days(3);
        C.due("two changes", x.account(18), 2);
        x.append('d');
        x.save();
        Picture.ofChanges(x);
        Picture.ofTheRest(x);
        x.tell(0);
        x.tellAll();
        x.run();
        x.milestone(0, 0);
        x.need(0, 0);
        C.due("still two changes", x.account(18), 2);
        C.due("undo is none", x.undo(), 1);
        C.due("the day", x.account(0), 0);
        C.due("undo again", x.undo(), 0);
        C.due("no step", x.account(1), 0);
        C.due("the snapshot stays", x.restore(), 3);
        C.due("with its step", x.stepOf(0, 4), 3);
    }

    /** Steps of a cancelled branch, an event each; then a step whose tries go wrong on each of some days. */
    private static void events(int leftOut, int days) {
        TrousseauFlow x = new TrousseauFlow();
        List<String> log = new ArrayList<>();
        x.cancel(2);
        for (int i = 0; i < leftOut; i++) {
            x.step(1, 0, 2, false);
            log.add(0, "5 " + i + " 0");
        }
        x.step(1, 3, 0, false);
        x.fault(leftOut, 9);
        for (int day = 0; day < days; day++) {
            x.days(1);
            if (day > 0) {
                log.add(0, "2 " + leftOut + " " + day);
            }
            log.add(0, "0 " + leftOut + " " + day);
        }
        int kept = Math.min(KEPT_EVENTS, log.size());
        for (int place = 0; place < kept; place++) {
            C.dueText("event " + place + " of " + log.size(), Check.event(x, place), log.get(place));
        }
        for (int place = kept; place <= KEPT_EVENTS + 1; place++) {
            C.due("no event " + place + " of " + log.size(), x.logged(place, 0), NONE);
        }
    }

    /** Undo and restore bring back events that later ones had pushed out. */
    private static void eventsBack() {
        TrousseauFlow x = new TrousseauFlow();
        x.hands(4);
        for (int i = 0; i < 12; i++) {
            x.step(1 + i % 2, 3, 1 + i % 3, false);
            x.fault(i, 4);
        }
        x.days(5);
        x.save();
        String before = Picture.ofChanges(x);
        C.due("more events than are kept", x.account(13) + x.account(14) > KEPT_EVENTS ? 1 : 0, 1);
        x.days(30);
        C.due("other events", Picture.ofChanges(x).equals(before) ? 1 : 0, 0);
        x.undo();
        C.dueText("undone", Picture.ofChanges(x), before);
        x.days(1);
        x.cancel(1);
        x.restore();
        C.dueText("restored", Picture.ofChanges(x), before);
    }
}
