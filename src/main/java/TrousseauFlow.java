/** A trousseau that is made in steps, day by day; ../shared/DOC.md says what each call answers. */
public final class TrousseauFlow {
    public static final int NONE = -11;
    public static final int BAD = -12;
    public static final int FULL = -13;
    public static final int REFUSED = -14;
    public static final int NOTHING = -15;

    private static final int MOST_STEPS = 12;
    private static final int MOST_DAYS_OF_STEP = 9;
    private static final int MOST_TRIES_MORE = 3;
    private static final int MOST_FAULTS_TOLD = 9;
    private static final int LAST_BRANCH = 3;
    private static final int FIRST_HANDS = 2;
    private static final int MOST_HANDS = 4;
    private static final int MOST_MILESTONES = 4;
    private static final int LAST_MILESTONE_DAY = 999;
    private static final int MOST_DAYS_AT_ONCE = 30;
    private static final int MOST_DAYS_AHEAD = 200;
    private static final int MOST_EVENTS = 16;
    private static final int NUMBERS_OF_EVENT = 3;
    private static final int MOST_CHANGES = 8;
    private static final int MARKS = MOST_CHANGES + 1;
    private static final int MOST_SIGNS = 60;
    private static final int MOST_LINE = 64;
    // The shortest order and its ";" are six signs, so 60 signs hold ten orders at most.
    private static final int MOST_ORDERS = 12;
    private static final int FIRST_SIGN = 32;
    private static final int LAST_SIGN = 126;
    private static final int TEXT_IS_WRONG = -1000;

    private static final int WAITS = 0;
    private static final int RUNS = 1;
    private static final int RESTS = 2;
    private static final int DONE = 3;
    private static final int BEING_UNDONE = 4;
    private static final int UNDONE = 5;
    private static final int LEFT_OUT = 6;
    private static final int FAILED = 7;
    private static final String LETTERS = "wrzduxof";

    private static final int TRY_BEGAN = 0;
    private static final int STEP_DONE = 1;
    private static final int TRY_WENT_WRONG = 2;
    private static final int STEP_FAILED = 3;
    private static final int STEP_UNDONE = 4;
    private static final int STEP_LEFT_OUT = 5;

    private static final int NO_ROOM = 1;
    private static final int BOTH_ARE_ONE = 2;
    private static final int IS_SO_ALREADY = 3;
    private static final int NEEDED_BY_OTHER = 4;
    private static final int NOT_OPEN = 5;
    private static final int ORDER_FAILS = 6;

    private final Plan now = new Plan();
    private final Plan forecast = new Plan();
    private final Plan snapshot = new Plan();
    private boolean hasSnapshot;

    // A ring: one mark more than changes that can be undone, so that the mark at nextMark is always free.
    private final Plan[] marks = new Plan[MARKS];
    private int nextMark;
    private int undoable;

    private final OrderText text = new OrderText();
    private final Line line = new Line();
    private final Chains chains = new Chains();

    private boolean wasRefused;
    private int lastReason;
    private int lastDetail;

    public TrousseauFlow() {
        for (int k = 0; k < MARKS; k++) {
            marks[k] = new Plan();
        }
    }

    // ---- steps, needs

    public int step(int days, int more, int branch, boolean isAny) {
        markBefore();
        return keepChange(tellStep(days, more, branch, isAny));
    }

    public int need(int step, int other) {
        markBefore();
        return keepChange(tellNeed(step, other));
    }

    public int fault(int step, int many) {
        markBefore();
        return keepChange(tellFault(step, many));
    }

    public int hands(int many) {
        markBefore();
        return keepChange(setHands(many));
    }

    public int cancel(int branch) {
        markBefore();
        return keepChange(tellCancel(branch));
    }

    public int milestone(int step, int day) {
        markBefore();
        return keepChange(tellMilestone(step, day));
    }

    public int days(int days) {
        markBefore();
        return keepChange(letDaysGo(days));
    }

    public int stepOf(int step, int what) {
        if (!now.hasStep(step)) {
            return NONE;
        }
        Step s = now.steps[step];
        switch (what) {
            case 0:
                return s.days;
            case 1:
                return s.more;
            case 2:
                return s.branch;
            case 3:
                return s.isAny ? 1 : 0;
            case 4:
                return s.how;
            case 5:
                return s.toGo;
            case 6:
                return s.begun;
            case 7:
                return s.wrongNext;
            case 8:
                return s.doneDay;
            case 9:
                return s.needs;
            default:
                return BAD;
        }
    }

    public int ready(int step) {
        if (!now.hasStep(step)) {
            return NONE;
        }
        return now.isReady(step, now.setOf(DONE)) ? 1 : 0;
    }

    public int milestoneOf(int place, int what) {
        if (place < 0 || place >= now.milestoneCount) {
            return NONE;
        }
        Step s = now.steps[now.milestones[place]];
        switch (what) {
            case 0:
                return now.milestones[place];
            case 1:
                return s.dueDay;
            case 2:
                return s.how == DONE ? s.doneDay : NOTHING;
            case 3:
                return now.lateBy(place);
            default:
                return BAD;
        }
    }

    public int late() {
        int sum = 0;
        for (int k = 0; k < now.milestoneCount; k++) {
            sum += now.lateBy(k);
        }
        return sum;
    }

    // ---- what comes

    public int doneIn(int step) {
        if (!now.hasStep(step)) {
            return NONE;
        }
        if (now.steps[step].how == DONE) {
            return 0;
        }
        forecast.copyFrom(now);
        for (int days = 1; days <= MOST_DAYS_AHEAD; days++) {
            forecast.passDay();
            if (forecast.steps[step].how == DONE) {
                return days;
            }
            // If nothing runs behind a day, no later day can let anything begin.
            if (forecast.countOf(RUNS) == 0) {
                return NOTHING;
            }
        }
        return NOTHING;
    }

    public int chain(int step) {
        if (!now.hasStep(step)) {
            return NONE;
        }
        chains.measureByNeeds(now);
        return chains.byNeeds[step];
    }

    public int chainAgain(int step) {
        if (!now.hasStep(step)) {
            return NONE;
        }
        chains.measureByRounds(now);
        return chains.byRounds[step];
    }

    public int logged(int place, int what) {
        if (place < 0 || place >= now.eventCount) {
            return NONE;
        }
        if (what < 0 || what >= NUMBERS_OF_EVENT) {
            return BAD;
        }
        int slot = (now.nextEvent + 2 * MOST_EVENTS - 1 - place) % MOST_EVENTS;
        return now.events[slot * NUMBERS_OF_EVENT + what];
    }

    public int ranked(int place) {
        for (int i = 0; i < now.count; i++) {
            if (now.stepsAheadOf(i) == place) {
                return i;
            }
        }
        return NONE;
    }

    // ---- texts, lines

    public int append(int code) {
        if (code < FIRST_SIGN || code > LAST_SIGN) {
            return BAD;
        }
        if (text.length >= MOST_SIGNS) {
            return FULL;
        }
        text.addSign((char) code);
        return text.length;
    }

    public int run() {
        int faultPosition = text.readOrders();
        text.length = 0;
        if (faultPosition != OrderText.NO_FAULT) {
            return TEXT_IS_WRONG - faultPosition;
        }
        markBefore();
        for (int k = 0; k < text.orderCount; k++) {
            if (carryOut(text.orders[k]) < 0) {
                now.copyFrom(marks[nextMark]);
                return refuse(ORDER_FAILS, k);
            }
        }
        return keepChange(text.orderCount);
    }

    public int tell(int step) {
        if (!now.hasStep(step)) {
            return NONE;
        }
        line.length = 0;
        line.putStep(step, now.steps[step]);
        return line.length;
    }

    public int tellAll() {
        line.length = 0;
        for (int i = 0; i < now.count; i++) {
            line.putLetterOf(now.steps[i].how);
        }
        return line.length;
    }

    public int character(int index) {
        if (index < 0 || index >= line.length) {
            return NONE;
        }
        return line.signs[index];
    }

    // ---- reasons, accounts, undo and the snapshot

    public int reason(boolean isDetail) {
        if (!wasRefused) {
            return NOTHING;
        }
        return isDetail ? lastDetail : lastReason;
    }

    public int account(int what) {
        if (what >= 2 && what <= 9) {
            return now.countOf(what - 2);
        }
        switch (what) {
            case 0:
                return now.day;
            case 1:
                return now.count;
            case 10:
                return now.handCount;
            case 11:
                return now.milestoneCount;
            case 12:
                return now.cancelled;
            case 13:
                return now.triesBegun;
            case 14:
                return now.triesWrong;
            case 15:
                return now.doneSoFar;
            case 16:
                return now.undoneSoFar;
            case 17:
                return text.length;
            case 18:
                return undoable;
            default:
                return BAD;
        }
    }

    public int isBalanced() {
        int wereDone = now.countOf(DONE) + now.countOf(BEING_UNDONE) + now.countOf(UNDONE);
        if (now.doneSoFar != wereDone || now.countOf(RUNS) > MOST_HANDS) {
            return 0;
        }
        chains.measureByNeeds(now);
        chains.measureByRounds(now);
        for (int i = 0; i < now.count; i++) {
            if (chains.byNeeds[i] != chains.byRounds[i]) {
                return 0;
            }
        }
        return 1;
    }

    public double meanDays() {
        if (now.count <= 0) {
            return 0.0;
        }
        int sum = 0;
        for (int i = 0; i < now.count; i++) {
            sum += now.steps[i].days;
        }
        return (double) sum / (double) now.count;
    }

    public float wrongShare() {
        if (now.triesBegun <= 0) {
            return 0.0f;
        }
        return (float) now.triesWrong / (float) now.triesBegun;
    }

    public int undo() {
        if (undoable == 0) {
            return NOTHING;
        }
        nextMark = (nextMark + MARKS - 1) % MARKS;
        now.copyFrom(marks[nextMark]);
        undoable--;
        return undoable;
    }

    public int save() {
        snapshot.copyFrom(now);
        hasSnapshot = true;
        return now.day;
    }

    public int restore() {
        if (!hasSnapshot) {
            return NOTHING;
        }
        now.copyFrom(snapshot);
        undoable = 0;
        return now.day;
    }

    // ---- the changes, each with its tests ahead of what it changes

    private int tellStep(int days, int more, int branch, boolean isAny) {
        if (!isWithin(days, 1, MOST_DAYS_OF_STEP) || !isWithin(more, 0, MOST_TRIES_MORE)
                || !isWithin(branch, 0, LAST_BRANCH)) {
            return BAD;
        }
        if (now.count >= MOST_STEPS) {
            return refuse(NO_ROOM, now.count);
        }
        return now.addStep(days, more, branch, isAny);
    }

    private int tellNeed(int step, int other) {
        if (!now.hasStep(step) || !now.hasStep(other)) {
            return NONE;
        }
        if (step == other) {
            return refuse(BOTH_ARE_ONE, step);
        }
        Step s = now.steps[step];
        if (s.how != WAITS) {
            return refuse(NOT_OPEN, s.how);
        }
        if ((s.needs & 1 << other) != 0) {
            return refuse(IS_SO_ALREADY, other);
        }
        if (now.needsOverAll(other, step)) {
            return refuse(NEEDED_BY_OTHER, other);
        }
        s.needs |= 1 << other;
        return Integer.bitCount(s.needs);
    }

    private int tellFault(int step, int many) {
        if (!now.hasStep(step)) {
            return NONE;
        }
        if (!isWithin(many, 1, MOST_FAULTS_TOLD)) {
            return BAD;
        }
        Step s = now.steps[step];
        if (!s.isOpen()) {
            return refuse(NOT_OPEN, s.how);
        }
        s.wrongNext += many;
        return s.wrongNext;
    }

    private int setHands(int many) {
        if (!isWithin(many, 1, MOST_HANDS)) {
            return BAD;
        }
        int before = now.handCount;
        now.handCount = many;
        return before;
    }

    private int tellCancel(int branch) {
        if (!isWithin(branch, 1, LAST_BRANCH)) {
            return NONE;
        }
        if (now.isCancelled(branch)) {
            return refuse(IS_SO_ALREADY, branch);
        }
        return now.cancelBranch(branch);
    }

    private int tellMilestone(int step, int day) {
        if (!now.hasStep(step)) {
            return NONE;
        }
        if (!isWithin(day, 1, LAST_MILESTONE_DAY)) {
            return BAD;
        }
        Step s = now.steps[step];
        if (s.dueDay != Step.NO_DUE_DAY) {
            return refuse(IS_SO_ALREADY, s.dueDay);
        }
        if (now.milestoneCount >= MOST_MILESTONES) {
            return refuse(NO_ROOM, now.milestoneCount);
        }
        return now.addMilestone(step, day);
    }

    private int letDaysGo(int days) {
        if (!isWithin(days, 1, MOST_DAYS_AT_ONCE)) {
            return BAD;
        }
        int before = now.doneSoFar;
        for (int k = 0; k < days; k++) {
            now.passDay();
        }
        return now.doneSoFar - before;
    }

    private int carryOut(Order order) {
        switch (order.kind) {
            case 's':
                return tellStep(order.first, order.second, order.third, order.isAny);
            case 'n':
                return tellNeed(order.first, order.second);
            case 'f':
                return tellFault(order.first, order.second);
            case 'h':
                return setHands(order.first);
            case 'c':
                return tellCancel(order.first);
            case 'm':
                return tellMilestone(order.first, order.second);
            case 'd':
                return letDaysGo(order.first);
            default:
                return BAD;
        }
    }

    private int refuse(int reason, int detail) {
        wasRefused = true;
        lastReason = reason;
        lastDetail = detail;
        return REFUSED;
    }

    private void markBefore() {
        marks[nextMark].copyFrom(now);
    }

    /** Makes the mark of the change last, if the answer is no code. */
    private int keepChange(int answer) {
        if (answer < 0) {
            return answer;
        }
        nextMark = (nextMark + 1) % MARKS;
        if (undoable < MOST_CHANGES) {
            undoable++;
        }
        return answer;
    }

    private static boolean isWithin(int number, int least, int most) {
        return number >= least && number <= most;
    }

    /** One step: what was told of it, and how it is. */
    private static final class Step {
        // Behind every day that a milestone may have, so that steps without one come last.
        static final int NO_DUE_DAY = 1000;

        int days;
        int more;
        int branch;
        boolean isAny;
        int needs;
        int dueDay;
        int how;
        int toGo;
        int begun;
        int wrongNext;
        int doneDay;

        void tellAnew(int newDays, int newMore, int newBranch, boolean newIsAny) {
            days = newDays;
            more = newMore;
            branch = newBranch;
            isAny = newIsAny;
            needs = 0;
            dueDay = NO_DUE_DAY;
            how = WAITS;
            toGo = 0;
            begun = 0;
            wrongNext = 0;
            doneDay = NOTHING;
        }

        void copyFrom(Step other) {
            days = other.days;
            more = other.more;
            branch = other.branch;
            isAny = other.isAny;
            needs = other.needs;
            dueDay = other.dueDay;
            how = other.how;
            toGo = other.toGo;
            begun = other.begun;
            wrongNext = other.wrongNext;
            doneDay = other.doneDay;
        }

        boolean isOpen() {
            return how <= RESTS;
        }

        boolean isOff() {
            return how >= BEING_UNDONE;
        }
    }

    /** All that changes can change. */
    private static final class Plan {
        final Step[] steps = new Step[MOST_STEPS];
        int count;
        final int[] milestones = new int[MOST_MILESTONES];
        int milestoneCount;
        final int[] events = new int[MOST_EVENTS * NUMBERS_OF_EVENT];
        int nextEvent;
        int eventCount;
        int day;
        int handCount = FIRST_HANDS;
        int cancelled;
        int triesBegun;
        int triesWrong;
        int doneSoFar;
        int undoneSoFar;

        Plan() {
            for (int i = 0; i < MOST_STEPS; i++) {
                steps[i] = new Step();
            }
        }

        void copyFrom(Plan other) {
            for (int i = 0; i < other.count; i++) {
                steps[i].copyFrom(other.steps[i]);
            }
            count = other.count;
            System.arraycopy(other.milestones, 0, milestones, 0, MOST_MILESTONES);
            milestoneCount = other.milestoneCount;
            System.arraycopy(other.events, 0, events, 0, MOST_EVENTS * NUMBERS_OF_EVENT);
            nextEvent = other.nextEvent;
            eventCount = other.eventCount;
            day = other.day;
            handCount = other.handCount;
            cancelled = other.cancelled;
            triesBegun = other.triesBegun;
            triesWrong = other.triesWrong;
            doneSoFar = other.doneSoFar;
            undoneSoFar = other.undoneSoFar;
        }

        boolean hasStep(int number) {
            return number >= 0 && number < count;
        }

        /** Adds a step, for which there must be room. */
        int addStep(int days, int more, int branch, boolean isAny) {
            int number = count;
            steps[number].tellAnew(days, more, branch, isAny);
            count++;
            if (isCancelled(branch)) {
                turn(number, LEFT_OUT, STEP_LEFT_OUT);
            }
            return number;
        }

        /** Adds a milestone, for which there must be room. */
        int addMilestone(int step, int dueDay) {
            int number = milestoneCount;
            milestones[number] = step;
            steps[step].dueDay = dueDay;
            milestoneCount++;
            return number;
        }

        int lateBy(int place) {
            Step s = steps[milestones[place]];
            int last = s.how == DONE ? s.doneDay : day;
            return Math.max(0, last - s.dueDay);
        }

        int countOf(int how) {
            return Integer.bitCount(setOf(how));
        }

        int setOf(int how) {
            int set = 0;
            for (int i = 0; i < count; i++) {
                if (steps[i].how == how) {
                    set |= 1 << i;
                }
            }
            return set;
        }

        int setOfOff() {
            int set = 0;
            for (int i = 0; i < count; i++) {
                if (steps[i].isOff()) {
                    set |= 1 << i;
                }
            }
            return set;
        }

        boolean isReady(int number, int doneSet) {
            Step s = steps[number];
            if (s.needs == 0) {
                return true;
            }
            return s.isAny ? (s.needs & doneSet) != 0 : (s.needs & ~doneSet) == 0;
        }

        boolean isHopeless(int number, int offSet) {
            Step s = steps[number];
            if (!s.isOpen() || s.how == RUNS || s.needs == 0) {
                return false;
            }
            return s.isAny ? (s.needs & ~offSet) == 0 : (s.needs & offSet) != 0;
        }

        /** Whether a step needs the sought one, at once or over others. */
        boolean needsOverAll(int number, int sought) {
            int reached = steps[number].needs;
            for (int round = 0; round < MOST_STEPS; round++) {
                int wider = reached;
                for (int i = 0; i < count; i++) {
                    if ((reached & 1 << i) != 0) {
                        wider |= steps[i].needs;
                    }
                }
                if (wider == reached) {
                    break;
                }
                reached = wider;
            }
            return (reached & 1 << sought) != 0;
        }

        int stepsAheadOf(int number) {
            int ahead = 0;
            for (int i = 0; i < count; i++) {
                if (i != number && isRankedAhead(i, number)) {
                    ahead++;
                }
            }
            return ahead;
        }

        private boolean isRankedAhead(int number, int other) {
            Step s = steps[number];
            Step o = steps[other];
            if (s.begun != o.begun) {
                return s.begun > o.begun;
            }
            if (s.days != o.days) {
                return s.days > o.days;
            }
            return number < other;
        }

        boolean isCancelled(int branch) {
            return (cancelled & 1 << branch) != 0;
        }

        /** Cancels a branch; returns how many steps are to be undone by this. */
        int cancelBranch(int branch) {
            cancelled |= 1 << branch;
            int toUndo = 0;
            for (int i = 0; i < count; i++) {
                Step s = steps[i];
                if (s.branch != branch) {
                    continue;
                }
                if (s.isOpen()) {
                    turn(i, LEFT_OUT, STEP_LEFT_OUT);
                } else if (s.how == DONE) {
                    s.how = BEING_UNDONE;
                    s.toGo = (s.days + 1) / 2;
                    toUndo++;
                }
            }
            return toUndo;
        }

        void passDay() {
            for (int i = 0; i < count; i++) {
                workOn(i);
            }
            for (int branch = 1; branch <= LAST_BRANCH; branch++) {
                if (isCancelled(branch)) {
                    undoInBranch(branch);
                }
            }
            leaveOutHopeless();
            beginTries();
            day++;
        }

        private void workOn(int number) {
            Step s = steps[number];
            if (s.how != RUNS) {
                return;
            }
            s.toGo--;
            if (s.toGo > 0) {
                return;
            }
            if (s.wrongNext == 0) {
                s.doneDay = day;
                doneSoFar++;
                turn(number, DONE, STEP_DONE);
                return;
            }
            s.wrongNext--;
            triesWrong++;
            if (s.begun <= s.more) {
                turn(number, RESTS, TRY_WENT_WRONG);
                return;
            }
            turn(number, FAILED, STEP_FAILED);
            if (s.branch != 0 && !isCancelled(s.branch)) {
                cancelBranch(s.branch);
            }
        }

        private void undoInBranch(int branch) {
            int number = firstToUndo(branch);
            if (number < 0) {
                return;
            }
            Step s = steps[number];
            s.toGo--;
            if (s.toGo <= 0) {
                undoneSoFar++;
                turn(number, UNDONE, STEP_UNDONE);
            }
        }

        /** The step of a branch that was done last, of those being undone, or -1. */
        private int firstToUndo(int branch) {
            int first = -1;
            int latestDay = -1;
            for (int i = 0; i < count; i++) {
                Step s = steps[i];
                // Steps of one day are done by the numbers, so of several the highest was last.
                if (s.how == BEING_UNDONE && s.branch == branch && s.doneDay >= latestDay) {
                    first = i;
                    latestDay = s.doneDay;
                }
            }
            return first;
        }

        private void leaveOutHopeless() {
            int offSet = setOfOff();
            for (int k = 0; k < MOST_STEPS; k++) {
                int lowest = lowestHopeless(offSet);
                if (lowest < 0) {
                    return;
                }
                turn(lowest, LEFT_OUT, STEP_LEFT_OUT);
                offSet |= 1 << lowest;
            }
        }

        private int lowestHopeless(int offSet) {
            for (int i = 0; i < count; i++) {
                if (isHopeless(i, offSet)) {
                    return i;
                }
            }
            return -1;
        }

        private void beginTries() {
            int doneSet = setOf(DONE);
            for (int running = countOf(RUNS); running < handCount; running++) {
                int number = firstToBegin(doneSet);
                if (number < 0) {
                    return;
                }
                Step s = steps[number];
                s.begun++;
                triesBegun++;
                turn(number, RUNS, TRY_BEGAN);
                s.toGo = s.days;
            }
        }

        private int firstToBegin(int doneSet) {
            int first = -1;
            int earliest = Step.NO_DUE_DAY + 1;
            for (int i = 0; i < count; i++) {
                Step s = steps[i];
                if ((s.how == WAITS || s.how == RESTS) && s.dueDay < earliest && isReady(i, doneSet)) {
                    first = i;
                    earliest = s.dueDay;
                }
            }
            return first;
        }

        /** Lets a step be so from now on, with no days to go, and logs it. */
        private void turn(int number, int how, int event) {
            steps[number].how = how;
            steps[number].toGo = 0;
            int start = nextEvent * NUMBERS_OF_EVENT;
            events[start] = event;
            events[start + 1] = number;
            events[start + 2] = day;
            nextEvent = (nextEvent + 1) % MOST_EVENTS;
            if (eventCount < MOST_EVENTS) {
                eventCount++;
            }
        }
    }

    /** The longest chains of all steps, in two ways. */
    private static final class Chains {
        final int[] byNeeds = new int[MOST_STEPS];
        final int[] byRounds = new int[MOST_STEPS];

        void measureByNeeds(Plan plan) {
            for (int i = 0; i < plan.count; i++) {
                byNeeds[i] = 0;
            }
            for (int i = 0; i < plan.count; i++) {
                longest(plan, i, byNeeds, 0);
            }
        }

        /** Measures the needed steps ahead of the step itself; 0 stands for what is not measured yet. */
        private static int longest(Plan plan, int number, int[] known, int depth) {
            if (known[number] > 0 || depth > MOST_STEPS) {
                return known[number];
            }
            Step s = plan.steps[number];
            int before = 0;
            for (int i = 0; i < plan.count; i++) {
                if ((s.needs & 1 << i) != 0) {
                    before = Math.max(before, longest(plan, i, known, depth + 1));
                }
            }
            known[number] = before + s.days;
            return known[number];
        }

        void measureByRounds(Plan plan) {
            for (int i = 0; i < plan.count; i++) {
                byRounds[i] = plan.steps[i].days;
            }
            boolean isLonger = true;
            // No step needs itself, so a round for each step is enough.
            for (int round = 0; isLonger && round <= MOST_STEPS; round++) {
                isLonger = false;
                for (int i = 0; i < plan.count; i++) {
                    isLonger = lengthen(plan, i) || isLonger;
                }
            }
        }

        private boolean lengthen(Plan plan, int number) {
            Step s = plan.steps[number];
            boolean isLonger = false;
            for (int i = 0; i < plan.count; i++) {
                if ((s.needs & 1 << i) != 0 && byRounds[i] + s.days > byRounds[number]) {
                    byRounds[number] = byRounds[i] + s.days;
                    isLonger = true;
                }
            }
            return isLonger;
        }
    }

    /** One order of a text, its kind by its first letter. */
    private static final class Order {
        char kind;
        int first;
        int second;
        int third;
        boolean isAny;
    }

    /** The text, and the orders read from it. */
    private static final class OrderText {
        static final int NO_FAULT = -1;

        private final char[] signs = new char[MOST_SIGNS];
        int length;
        private int at;
        final Order[] orders = new Order[MOST_ORDERS];
        int orderCount;

        OrderText() {
            for (int k = 0; k < MOST_ORDERS; k++) {
                orders[k] = new Order();
            }
        }

        /** Adds a sign, for which there must be room. */
        void addSign(char sign) {
            signs[length] = sign;
            length++;
        }

        /** Reads all orders; returns NO_FAULT, or the fault position. */
        int readOrders() {
            at = 0;
            orderCount = 0;
            for (int k = 0; k < MOST_ORDERS; k++) {
                if (!readOrder(orders[k])) {
                    return at;
                }
                orderCount++;
                if (at >= length) {
                    return NO_FAULT;
                }
                if (!takeSign(';')) {
                    return at;
                }
            }
            return at;
        }

        private boolean readOrder(Order order) {
            if (at >= length) {
                return false;
            }
            order.kind = signs[at];
            switch (order.kind) {
                case 's':
                    return readStep(order);
                case 'n':
                    return readPair(order, "need ", ' ', 2);
                case 'f':
                    return readPair(order, "fault ", '*', 1);
                case 'h':
                    return readOne(order, "hands ", 1);
                case 'c':
                    return readOne(order, "cancel ", 1);
                case 'm':
                    return readPair(order, "mile ", '@', 3);
                case 'd':
                    return readOne(order, "day ", 2);
                default:
                    return false;
            }
        }

        private boolean readStep(Order order) {
            if (!readOne(order, "step ", 1) || !takeSign(' ')) {
                return false;
            }
            order.second = takeNumber(1);
            if (order.second < 0 || !takeSign(' ')) {
                return false;
            }
            order.third = takeNumber(1);
            if (order.third < 0) {
                return false;
            }
            order.isAny = takeSign('?');
            return true;
        }

        /** Reads a word, a step, a sign, and a number with so many digits at most. */
        private boolean readPair(Order order, String word, char sign, int mostDigits) {
            if (!readOne(order, word, 2) || !takeSign(sign)) {
                return false;
            }
            order.second = takeNumber(mostDigits);
            return order.second >= 0;
        }

        private boolean readOne(Order order, String word, int mostDigits) {
            if (!takeWord(word)) {
                return false;
            }
            order.first = takeNumber(mostDigits);
            return order.first >= 0;
        }

        private boolean takeWord(String word) {
            for (int k = 0; k < word.length(); k++) {
                if (!takeSign(word.charAt(k))) {
                    return false;
                }
            }
            return true;
        }

        private boolean takeSign(char sign) {
            if (at >= length || signs[at] != sign) {
                return false;
            }
            at++;
            return true;
        }

        /** Takes one digit or more, as many as may be; returns -1 if there is none. */
        private int takeNumber(int mostDigits) {
            int number = -1;
            for (int k = 0; k < mostDigits; k++) {
                if (at >= length || signs[at] < '0' || signs[at] > '9') {
                    return number;
                }
                number = Math.max(number, 0) * 10 + signs[at] - '0';
                at++;
            }
            return number;
        }
    }

    /** The line that tell and tellAll write. */
    private static final class Line {
        final char[] signs = new char[MOST_LINE];
        int length;

        void putStep(int number, Step s) {
            putNumber(number);
            putSign('=');
            putNumber(s.days);
            if (s.more > 0) {
                putSign('*');
                putNumber(s.more);
            }
            if (s.isAny) {
                putSign('?');
            }
            if (s.branch > 0) {
                putSign('/');
                putNumber(s.branch);
            }
            for (int i = 0; i < MOST_STEPS; i++) {
                if ((s.needs & 1 << i) != 0) {
                    putSign('<');
                    putNumber(i);
                }
            }
        }

        void putLetterOf(int how) {
            if (how >= 0 && how < LETTERS.length()) {
                putSign(LETTERS.charAt(how));
            }
        }

        /** Puts a number below 100. */
        private void putNumber(int number) {
            if (number >= 10) {
                putSign((char) ('0' + number / 10));
            }
            putSign((char) ('0' + number % 10));
        }

        private void putSign(char sign) {
            if (length < MOST_LINE) {
                signs[length] = sign;
                length++;
            }
        }
    }
}
