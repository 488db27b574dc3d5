/** A bus on which a question and its answer are two trips, joined by a tag that is lent meanwhile. */
public final class TagBus {
    public static final int UNKNOWN = -1;
    public static final int BAD_VALUE = -2;
    public static final int FULL = -3;
    public static final int NOT_POSSIBLE = -4;
    public static final int NONE = -5;

    private static final int MASTERS = 4;
    private static final int TARGETS = 4;
    private static final int CELLS = 16;
    private static final int MOST_CELL_VALUE = 99;
    private static final int MOST_TAGS = 8;
    private static final int MOST_SHARE = 8;
    private static final int MOST_IN_ROW = 6;
    private static final int MOST_QUESTIONS = 200;
    private static final int MOST_IN_TEXT = 60;
    private static final int MOST_STATES = 4;
    private static final int MOST_TICKS = 99;
    private static final int LAST_TICK = 9999;
    private static final int FARTHEST_TICK = 999;
    private static final int LONGEST_PAUSE = 16;
    // 2 to the power of this is the longest pause; a greater power is not needed.
    private static final int PAUSE_POWER = 4;
    private static final int FAULT_BASE = -100;

    // A question takes at least five signs, and one more stands between two.
    private static final int MOST_ASKED_AT_ONCE = 10;

    private static final int SETTING_TAGS = 0;
    private static final int SETTING_MANNER = 1;
    private static final int SETTING_PATIENCE = 2;
    private static final int[] LEAST_SETTING = {1, 0, 1};
    private static final int[] MOST_SETTING = {8, 2, 50};

    private static final int TARGET_ROOM = 0;
    private static final int TARGET_DELAY = 1;
    private static final int TARGET_ORDER = 2;
    private static final int[] LEAST_OF_TARGET = {1, 1, 0};
    private static final int[] MOST_OF_TARGET = {4, 9, 1};

    private static final int ANSWERS_FIRST = 0;
    private static final int QUESTIONS_FIRST = 1;

    private static final int IN_ROW = 0;
    private static final int IN_TARGET = 1;
    private static final int DONE = 2;
    private static final int ANSWERED = 3;
    private static final int WITHDRAWN = 4;

    private static final int QUESTION_WENT = 0;
    private static final int ANSWER_WENT = 1;
    private static final int QUESTION_REFUSED = 2;

    private final Bus bus = new Bus();
    private final Bus trial = new Bus();
    private final Bus snapshot = new Bus();
    private boolean hasSnapshot;
    private final Bus[] past = new Bus[MOST_STATES];
    private int pastCount;
    private final QuestionText text = new QuestionText();

    /** Creates a bus without questions. */
    public TagBus() {
        for (int i = 0; i < MOST_STATES; i++) {
            past[i] = new Bus();
        }
    }

    // ---- settings

    /** Sets the number of tags (0), the manner (1), or the patience (2). */
    public int set(int what, int value) {
        if (!isIndex(what, LEAST_SETTING.length)
                || !isBetween(value, LEAST_SETTING[what], MOST_SETTING[what])) {
            return BAD_VALUE;
        }
        if (what == SETTING_TAGS && bus.highestLentTag() >= value) {
            return NOT_POSSIBLE;
        }
        int previous = bus.settings[what];
        if (previous == value) {
            return NONE;
        }
        record();
        bus.settings[what] = value;
        return previous;
    }

    /** Sets how many tags a master may hold at once. */
    public int setShare(int master, int share) {
        Master chosen = bus.masterAt(master);
        if (chosen == null) {
            return UNKNOWN;
        }
        if (!isBetween(share, 1, MOST_SHARE)) {
            return BAD_VALUE;
        }
        int previous = chosen.share;
        if (previous == share) {
            return NONE;
        }
        record();
        chosen.share = share;
        return previous;
    }

    /** Sets the room (0), the delay (1) or the order (2) of a target. */
    public int setTarget(int target, int what, int value) {
        Target chosen = bus.targetAt(target);
        if (chosen == null) {
            return UNKNOWN;
        }
        if (!isIndex(what, LEAST_OF_TARGET.length)
                || !isBetween(value, LEAST_OF_TARGET[what], MOST_OF_TARGET[what])) {
            return BAD_VALUE;
        }
        int previous = chosen.numbers[what];
        if (previous == value) {
            return NONE;
        }
        record();
        chosen.numbers[what] = value;
        return previous;
    }

    /** Sets a cell of a target, without the bus. */
    public int setCell(int target, int address, int value) {
        Target chosen = bus.targetAt(target);
        if (chosen == null) {
            return UNKNOWN;
        }
        if (!isIndex(address, CELLS) || !isBetween(value, 0, MOST_CELL_VALUE)) {
            return BAD_VALUE;
        }
        int previous = chosen.cells[address];
        if (previous == value) {
            return NONE;
        }
        record();
        chosen.cells[address] = value;
        return previous;
    }

    // ---- questions

    /** Puts a reading question behind the row of a master. */
    public int read(int master, int target, int address) {
        return putOne(master, target, address, NONE);
    }

    /** Puts a writing question behind the row of a master. */
    public int write(int master, int target, int address, int value) {
        if (bus.masterAt(master) == null || bus.targetAt(target) == null) {
            return UNKNOWN;
        }
        if (!isBetween(value, 0, MOST_CELL_VALUE)) {
            return BAD_VALUE;
        }
        return putOne(master, target, address, value);
    }

    /** Puts the questions of the text behind the rows of their masters. */
    public int ask() {
        int fault = text.findFault();
        if (fault != NONE) {
            return FAULT_BASE - fault;
        }
        if (!hasRoomForText()) {
            return FULL;
        }
        record();
        for (int i = 0; i < text.found; i++) {
            Question asked = text.questionAt(i);
            if (asked != null) {
                bus.put(asked.master, asked.target, asked.address, asked.written);
            }
        }
        return text.found;
    }

    /** Takes the last question of the row of a master away. */
    public int withdraw(int master) {
        Master chosen = bus.masterAt(master);
        if (chosen == null) {
            return UNKNOWN;
        }
        if (chosen.row.length == 0) {
            return NONE;
        }
        record();
        return bus.takeLastOf(chosen);
    }

    // ---- ticks

    /** Lets ticks pass, and tells how many trips were made in them. */
    public int pass(int ticks) {
        if (!isBetween(ticks, 1, MOST_TICKS)) {
            return BAD_VALUE;
        }
        if (bus.tick + ticks > LAST_TICK) {
            return FULL;
        }
        record();
        int trips = 0;
        for (int i = 0; i < ticks; i++) {
            if (bus.passTick() != NONE) {
                trips++;
            }
        }
        return trips;
    }

    // ---- texts

    /** Types a character behind the text. */
    public int type(char character) {
        return text.append(character) ? text.length : FULL;
    }

    /** Empties the text. */
    public int clearText() {
        int length = text.length;
        text.length = 0;
        return length;
    }

    // ---- history

    /** Removes and restores the latest state of the history. */
    public int undo() {
        int latest = pastCount - 1;
        if (!isIndex(latest, MOST_STATES)) {
            return NONE;
        }
        bus.copyFrom(past[latest]);
        pastCount = latest;
        return pastCount;
    }

    /** Takes a snapshot of the state, in place of the one that was. */
    public int keep() {
        snapshot.copyFrom(bus);
        hasSnapshot = true;
        return bus.tick;
    }

    /** Restores the state of the snapshot, which stays. */
    public int restore() {
        if (!hasSnapshot) {
            return NONE;
        }
        record();
        bus.copyFrom(snapshot);
        return bus.tick;
    }

    // ---- what is told

    /** Tells a number of a question. */
    public int question(int question, int what) {
        Question chosen = bus.questionAt(question);
        if (chosen == null) {
            return UNKNOWN;
        }
        switch (what) {
            case 0: return chosen.master;
            case 1: return chosen.target;
            case 2: return chosen.address;
            case 3: return chosen.written;
            case 4: return chosen.where;
            case 5: return chosen.tag;
            case 6: return chosen.answer;
            case 7: return chosen.took;
            case 8: return chosen.refusals;
            default: return BAD_VALUE;
        }
    }

    /** Tells to which question a tag is lent. */
    public int tag(int tag) {
        if (!isIndex(tag, bus.settings[SETTING_TAGS]) || !isIndex(tag, MOST_TAGS)) {
            return UNKNOWN;
        }
        return bus.lentTo[tag];
    }

    /** Tells a number of a master. */
    public int master(int master, int what) {
        Master chosen = bus.masterAt(master);
        if (chosen == null) {
            return UNKNOWN;
        }
        switch (what) {
            case 0: return chosen.row.length;
            case 1: return chosen.share;
            case 2: return chosen.holds;
            case 3: return chosen.refusals;
            case 4: return Math.max(0, chosen.notBefore - bus.tick);
            case 5: return chosen.waited;
            case 6: return chosen.answered;
            case 7: return chosen.longest;
            case 8: return bus.isOutOfPatience(chosen) ? 1 : 0;
            default: return BAD_VALUE;
        }
    }

    /** Tells the question at a place in the row of a master. */
    public int row(int master, int place) {
        Master chosen = bus.masterAt(master);
        if (chosen == null) {
            return UNKNOWN;
        }
        if (place < 0) {
            return BAD_VALUE;
        }
        return chosen.row.at(place);
    }

    /** Tells a number of a target. */
    public int target(int target, int what) {
        Target chosen = bus.targetAt(target);
        if (chosen == null) {
            return UNKNOWN;
        }
        switch (what) {
            case 0: return chosen.numbers[TARGET_ROOM];
            case 1: return chosen.numbers[TARGET_DELAY];
            case 2: return chosen.numbers[TARGET_ORDER];
            case 3: return chosen.inside.length;
            case 4: return bus.doneIn(chosen);
            case 5: return chosen.inside.at(bus.placeOfAnswer(chosen));
            default: return BAD_VALUE;
        }
    }

    /** Tells the value of a cell of a target. */
    public int cell(int target, int address) {
        Target chosen = bus.targetAt(target);
        if (chosen == null) {
            return UNKNOWN;
        }
        return isIndex(address, CELLS) ? chosen.cells[address] : BAD_VALUE;
    }

    /** Tells which trip the next tick makes: whose question it is (0), or its kind (1). */
    public int next(int what) {
        if (what != 0 && what != 1) {
            return BAD_VALUE;
        }
        trial.copyFrom(bus);
        int moved = trial.passTick();
        if (moved == NONE) {
            return NONE;
        }
        return what == 0 ? moved : trial.latestTrip;
    }

    /** Tells in how many ticks a question is answered, if nothing else is put into rows. */
    public int answeredIn(int question) {
        Question asked = bus.questionAt(question);
        if (asked == null) {
            return UNKNOWN;
        }
        if (asked.where == ANSWERED || asked.where == WITHDRAWN) {
            return NOT_POSSIBLE;
        }
        trial.copyFrom(bus);
        for (int ticks = 1; ticks <= FARTHEST_TICK; ticks++) {
            if (trial.passTick() == question && trial.latestTrip == ANSWER_WENT) {
                return ticks;
            }
        }
        return NONE;
    }

    /** Tells a number of the whole bus. */
    public int count(int what) {
        switch (what) {
            case 0: return bus.tick;
            case 1: return bus.settings[SETTING_TAGS];
            case 2: return bus.settings[SETTING_MANNER];
            case 3: return bus.settings[SETTING_PATIENCE];
            case 4: return bus.questionsSoFar;
            case 5: return bus.freeTags();
            case 6: return bus.answerTrips;
            case 7: return bus.questionTrips;
            case 8: return bus.refusedTrips;
            case 9: return bus.idleTicks;
            case 10: return bus.overtakings;
            case 11: return pastCount;
            case 12: return text.length;
            default: return BAD_VALUE;
        }
    }

    private static boolean isIndex(int index, int bound) {
        return index >= 0 && index < bound;
    }

    private static boolean isBetween(int value, int least, int most) {
        return value >= least && value <= most;
    }

    private int putOne(int master, int target, int address, int written) {
        Master asking = bus.masterAt(master);
        if (asking == null || bus.targetAt(target) == null) {
            return UNKNOWN;
        }
        if (!isIndex(address, CELLS)) {
            return BAD_VALUE;
        }
        if (asking.row.length >= MOST_IN_ROW || bus.questionsSoFar >= MOST_QUESTIONS) {
            return FULL;
        }
        record();
        return bus.put(master, target, address, written);
    }

    private boolean hasRoomForText() {
        if (bus.questionsSoFar + text.found > MOST_QUESTIONS) {
            return false;
        }
        for (int i = 0; i < MASTERS; i++) {
            Master asking = bus.masterAt(i);
            if (asking == null || asking.row.length + text.foundOf(i) > MOST_IN_ROW) {
                return false;
            }
        }
        return true;
    }

    /** Puts the state behind the history; the objects of the oldest one are used again. */
    private void record() {
        if (pastCount >= MOST_STATES) {
            Bus oldest = past[0];
            for (int i = 1; i < MOST_STATES; i++) {
                past[i - 1] = past[i];
            }
            past[MOST_STATES - 1] = oldest;
            pastCount = MOST_STATES - 1;
        }
        if (isIndex(pastCount, MOST_STATES)) {
            past[pastCount].copyFrom(bus);
            pastCount++;
        }
    }

    /** A question, and what has become of it. */
    private static final class Question {
        int master;
        int target;
        int address;
        int written;
        int where;
        int tag;
        int answer;
        int putAt;
        int doneAt;
        int took;
        int refusals;

        void begin(int ofMaster, int toTarget, int atAddress, int writtenValue, int tick) {
            master = ofMaster;
            target = toTarget;
            address = atAddress;
            written = writtenValue;
            where = IN_ROW;
            tag = NONE;
            answer = NONE;
            putAt = tick;
            doneAt = NONE;
            took = NONE;
            refusals = 0;
        }

        void copyFrom(Question other) {
            master = other.master;
            target = other.target;
            address = other.address;
            written = other.written;
            where = other.where;
            tag = other.tag;
            answer = other.answer;
            putAt = other.putAt;
            doneAt = other.doneAt;
            took = other.took;
            refusals = other.refusals;
        }
    }

    /** Numbers of questions, one behind the other; a row of a master is the longest that is needed. */
    private static final class Line {
        final int[] numbers = new int[MOST_IN_ROW];
        int length;

        int at(int place) {
            return isIndex(place, length) && isIndex(place, MOST_IN_ROW) ? numbers[place] : NONE;
        }

        void append(int number) {
            if (isIndex(length, MOST_IN_ROW)) {
                numbers[length] = number;
                length++;
            }
        }

        void removeAt(int place) {
            if (!isIndex(place, length)) {
                return;
            }
            for (int i = place + 1; i < length && i < MOST_IN_ROW; i++) {
                numbers[i - 1] = numbers[i];
            }
            length--;
        }

        void copyFrom(Line other) {
            length = other.length;
            System.arraycopy(other.numbers, 0, numbers, 0, MOST_IN_ROW);
        }
    }

    private static final class Master {
        final Line row = new Line();
        int share = 2;
        int holds;
        int refusals;
        int notBefore;
        int waited;
        int answered;
        int longest = NONE;

        void copyFrom(Master other) {
            row.copyFrom(other.row);
            share = other.share;
            holds = other.holds;
            refusals = other.refusals;
            notBefore = other.notBefore;
            waited = other.waited;
            answered = other.answered;
            longest = other.longest;
        }
    }

    private static final class Target {
        final int[] cells = new int[CELLS];
        final int[] numbers = {2, 3, 0};
        // In the order in which the questions came.
        final Line inside = new Line();

        boolean isFull() {
            return inside.length >= numbers[TARGET_ROOM];
        }

        /** Reads a cell, and writes it if there is a value to write; tells what was in it before. */
        int useCell(int address, int written) {
            if (!isIndex(address, CELLS)) {
                return NONE;
            }
            int before = cells[address];
            if (written != NONE) {
                cells[address] = written;
            }
            return before;
        }

        void copyFrom(Target other) {
            System.arraycopy(other.cells, 0, cells, 0, CELLS);
            System.arraycopy(other.numbers, 0, numbers, 0, numbers.length);
            inside.copyFrom(other.inside);
        }
    }

    /** A whole state: all but the text, the history and the snapshot. */
    private static final class Bus {
        final int[] settings = {4, ANSWERS_FIRST, 12};
        final int[] lentTo = new int[MOST_TAGS];
        final Master[] masters = new Master[MASTERS];
        final Target[] targets = new Target[TARGETS];
        final Question[] questions = new Question[MOST_QUESTIONS];
        int questionsSoFar;
        int tick;
        int latestTrip = NONE;
        int turnOfMaster;
        int turnOfTarget;
        int answerTrips;
        int questionTrips;
        int refusedTrips;
        int idleTicks;
        int overtakings;

        Bus() {
            for (int i = 0; i < MOST_TAGS; i++) {
                lentTo[i] = NONE;
            }
            for (int i = 0; i < MASTERS; i++) {
                masters[i] = new Master();
            }
            for (int i = 0; i < TARGETS; i++) {
                targets[i] = new Target();
            }
            for (int i = 0; i < MOST_QUESTIONS; i++) {
                questions[i] = new Question();
            }
        }

        void copyFrom(Bus other) {
            System.arraycopy(other.settings, 0, settings, 0, settings.length);
            System.arraycopy(other.lentTo, 0, lentTo, 0, MOST_TAGS);
            for (int i = 0; i < MASTERS; i++) {
                masters[i].copyFrom(other.masters[i]);
            }
            for (int i = 0; i < TARGETS; i++) {
                targets[i].copyFrom(other.targets[i]);
            }
            for (int i = 0; i < other.questionsSoFar && i < MOST_QUESTIONS; i++) {
                questions[i].copyFrom(other.questions[i]);
            }
            questionsSoFar = other.questionsSoFar;
            tick = other.tick;
            latestTrip = other.latestTrip;
            turnOfMaster = other.turnOfMaster;
            turnOfTarget = other.turnOfTarget;
            answerTrips = other.answerTrips;
            questionTrips = other.questionTrips;
            refusedTrips = other.refusedTrips;
            idleTicks = other.idleTicks;
            overtakings = other.overtakings;
        }

        Master masterAt(int number) {
            return isIndex(number, MASTERS) ? masters[number] : null;
        }

        Target targetAt(int number) {
            return isIndex(number, TARGETS) ? targets[number] : null;
        }

        Question questionAt(int number) {
            return isIndex(number, questionsSoFar) && isIndex(number, MOST_QUESTIONS) ? questions[number] : null;
        }

        int highestLentTag() {
            int highest = NONE;
            for (int i = 0; i < MOST_TAGS; i++) {
                if (lentTo[i] != NONE) {
                    highest = i;
                }
            }
            return highest;
        }

        int freeTags() {
            int free = 0;
            for (int i = 0; i < settings[SETTING_TAGS] && i < MOST_TAGS; i++) {
                if (lentTo[i] == NONE) {
                    free++;
                }
            }
            return free;
        }

        int lowestFreeTag() {
            for (int i = 0; i < settings[SETTING_TAGS] && i < MOST_TAGS; i++) {
                if (lentTo[i] == NONE) {
                    return i;
                }
            }
            return NONE;
        }

        /** Puts a question behind the row of its master, where there is room for it. */
        int put(int master, int target, int address, int written) {
            Master asking = masterAt(master);
            if (asking == null || !isIndex(questionsSoFar, MOST_QUESTIONS)) {
                return NONE;
            }
            int number = questionsSoFar;
            questions[number].begin(master, target, address, written, tick);
            questionsSoFar++;
            asking.row.append(number);
            return number;
        }

        int takeLastOf(Master asking) {
            int place = asking.row.length - 1;
            int number = asking.row.at(place);
            asking.row.removeAt(place);
            if (asking.row.length == 0) {
                asking.waited = 0;
            }
            Question last = questionAt(number);
            if (last != null) {
                last.where = WITHDRAWN;
            }
            return number;
        }

        int doneIn(Target target) {
            int done = 0;
            for (int place = 0; place < target.inside.length; place++) {
                Question inside = questionAt(target.inside.at(place));
                if (inside != null && inside.where == DONE) {
                    done++;
                }
            }
            return done;
        }

        boolean isOutOfPatience(Master asking) {
            return asking.waited >= settings[SETTING_PATIENCE];
        }

        /** Makes one tick; tells the question of the trip in it, NONE without a trip. */
        int passTick() {
            finishQuestions();
            int moved = makeTrip();
            if (moved == NONE) {
                idleTicks++;
            }
            Question went = latestTrip == QUESTION_WENT ? questionAt(moved) : null;
            countWaits(went == null ? NONE : went.master);
            tick++;
            return moved;
        }

        private void finishQuestions() {
            for (Target target : targets) {
                for (int place = 0; place < target.inside.length; place++) {
                    Question inside = questionAt(target.inside.at(place));
                    if (inside != null && inside.where == IN_TARGET && inside.doneAt == tick) {
                        inside.answer = target.useCell(inside.address, inside.written);
                        inside.where = DONE;
                    }
                }
            }
        }

        private int makeTrip() {
            int answering = targetThatAnswers();
            int sending = masterThatSends();
            if (answering != NONE && (sending == NONE || prefersAnswer())) {
                return sendAnswerOf(answering);
            }
            return sending == NONE ? NONE : sendQuestionOf(sending);
        }

        private boolean prefersAnswer() {
            int manner = settings[SETTING_MANNER];
            if (manner == ANSWERS_FIRST || manner == QUESTIONS_FIRST) {
                return manner == ANSWERS_FIRST;
            }
            return latestTrip == QUESTION_WENT || latestTrip == QUESTION_REFUSED;
        }

        private int targetThatAnswers() {
            for (int i = 0; i < TARGETS; i++) {
                int number = (turnOfTarget + i) % TARGETS;
                Target target = targetAt(number);
                if (target != null && placeOfAnswer(target) != NONE) {
                    return number;
                }
            }
            return NONE;
        }

        /** The place in a target of the question whose answer can go from it, NONE if none can. */
        int placeOfAnswer(Target target) {
            boolean inOrder = target.numbers[TARGET_ORDER] == 0;
            int places = inOrder ? Math.min(1, target.inside.length) : target.inside.length;
            int chosen = NONE;
            int earliest = 0;
            for (int place = 0; place < places; place++) {
                Question inside = questionAt(target.inside.at(place));
                if (inside != null && inside.where == DONE && (chosen == NONE || inside.doneAt < earliest)) {
                    chosen = place;
                    earliest = inside.doneAt;
                }
            }
            return chosen;
        }

        private int masterThatSends() {
            if (lowestFreeTag() == NONE) {
                return NONE;
            }
            int waiting = masterThatWaitedTooLong();
            if (waiting != NONE) {
                return waiting;
            }
            for (int i = 0; i < MASTERS; i++) {
                int number = (turnOfMaster + i) % MASTERS;
                Master asking = masterAt(number);
                if (asking != null && maySend(asking)) {
                    return number;
                }
            }
            return NONE;
        }

        private int masterThatWaitedTooLong() {
            int chosen = NONE;
            int longest = 0;
            for (int i = 0; i < MASTERS; i++) {
                Master asking = masterAt(i);
                if (asking != null && maySend(asking) && isOutOfPatience(asking)
                        && (chosen == NONE || asking.waited > longest)) {
                    chosen = i;
                    longest = asking.waited;
                }
            }
            return chosen;
        }

        /** Whether a master could send its first question, if a tag is free. */
        private boolean maySend(Master asking) {
            return asking.row.length > 0 && tick >= asking.notBefore && asking.holds < asking.share;
        }

        private int sendQuestionOf(int sending) {
            Master asking = masterAt(sending);
            int number = asking == null ? NONE : asking.row.at(0);
            Question first = questionAt(number);
            Target target = first == null ? null : targetAt(first.target);
            if (target == null) {
                return NONE;
            }
            turnOfMaster = (sending + 1) % MASTERS;
            if (target.isFull()) {
                refuse(asking, first);
            } else {
                letIn(asking, target, number);
            }
            return number;
        }

        private void refuse(Master asking, Question refused) {
            refused.refusals++;
            asking.refusals++;
            int pause = asking.refusals >= PAUSE_POWER ? LONGEST_PAUSE : 1 << asking.refusals;
            asking.notBefore = tick + 1 + pause;
            refusedTrips++;
            latestTrip = QUESTION_REFUSED;
        }

        private void letIn(Master asking, Target target, int number) {
            Question first = questionAt(number);
            int tag = lowestFreeTag();
            if (first == null || !isIndex(tag, MOST_TAGS)) {
                return;
            }
            asking.row.removeAt(0);
            asking.refusals = 0;
            asking.holds++;
            lentTo[tag] = number;
            first.tag = tag;
            first.where = IN_TARGET;
            first.doneAt = tick + target.numbers[TARGET_DELAY] + first.address % 4;
            target.inside.append(number);
            questionTrips++;
            latestTrip = QUESTION_WENT;
        }

        private int sendAnswerOf(int answering) {
            Target target = targetAt(answering);
            int place = target == null ? NONE : placeOfAnswer(target);
            int number = target == null ? NONE : target.inside.at(place);
            Question answered = questionAt(number);
            if (answered == null) {
                return NONE;
            }
            turnOfTarget = (answering + 1) % TARGETS;
            if (place > 0) {
                overtakings++;
            }
            target.inside.removeAt(place);
            takeTagBack(answered);
            answered.where = ANSWERED;
            answered.took = tick - answered.putAt;
            noteAnswer(masterAt(answered.master), answered.took);
            answerTrips++;
            latestTrip = ANSWER_WENT;
            return number;
        }

        private void takeTagBack(Question answered) {
            if (isIndex(answered.tag, MOST_TAGS)) {
                lentTo[answered.tag] = NONE;
            }
            answered.tag = NONE;
        }

        private void noteAnswer(Master asking, int took) {
            if (asking == null) {
                return;
            }
            asking.holds--;
            asking.answered++;
            asking.longest = Math.max(asking.longest, took);
        }

        /** Counts the tick as a wait, but for the master whose question went; NONE if none went. */
        private void countWaits(int gone) {
            for (int i = 0; i < MASTERS; i++) {
                Master asking = masters[i];
                if (i == gone || asking.row.length == 0) {
                    asking.waited = 0;
                } else {
                    asking.waited++;
                }
            }
        }
    }

    /** The typed text, and the questions that were read from it. */
    private static final class QuestionText {
        final char[] signs = new char[MOST_IN_TEXT];
        int length;
        final Question[] questions = new Question[MOST_ASKED_AT_ONCE];
        int found;
        private int at;

        QuestionText() {
            for (int i = 0; i < MOST_ASKED_AT_ONCE; i++) {
                questions[i] = new Question();
            }
        }

        boolean append(char sign) {
            if (!isIndex(length, MOST_IN_TEXT)) {
                return false;
            }
            signs[length] = sign;
            length++;
            return true;
        }

        Question questionAt(int place) {
            return isIndex(place, found) && isIndex(place, MOST_ASKED_AT_ONCE) ? questions[place] : null;
        }

        int foundOf(int master) {
            int ofMaster = 0;
            for (int i = 0; i < found && i < MOST_ASKED_AT_ONCE; i++) {
                if (questions[i].master == master) {
                    ofMaster++;
                }
            }
            return ofMaster;
        }

        /** Reads the questions; tells the index of the fault, NONE without one. */
        int findFault() {
            at = 0;
            found = 0;
            for (int i = 0; i < MOST_ASKED_AT_ONCE; i++) {
                if (!readQuestion(questions[i])) {
                    return at;
                }
                found++;
                if (at >= length) {
                    return NONE;
                }
                if (!skip(';')) {
                    return at;
                }
            }
            return at;
        }

        /** Reads a question; if it has a fault, the place of reading stays there. */
        private boolean readQuestion(Question into) {
            int master = readNumber(MASTERS - 1);
            if (master == NONE || !skip('>')) {
                return false;
            }
            int target = readNumber(TARGETS - 1);
            if (target == NONE) {
                return false;
            }
            boolean writes = skip('w');
            if (!writes && !skip('r')) {
                return false;
            }
            int address = readNumber(CELLS - 1);
            if (address == NONE || (writes && !skip('='))) {
                return false;
            }
            int written = writes ? readNumber(MOST_CELL_VALUE) : NONE;
            if (writes && written == NONE) {
                return false;
            }
            into.begin(master, target, address, written, 0);
            return true;
        }

        private boolean skip(char sign) {
            if (at >= length || !isIndex(at, MOST_IN_TEXT) || signs[at] != sign) {
                return false;
            }
            at++;
            return true;
        }

        /** Reads a number of one or two digits as far as it is not more than most; NONE without a digit. */
        private int readNumber(int most) {
            int number = digitAt(at);
            if (number == NONE || number > most) {
                return NONE;
            }
            at++;
            int second = digitAt(at);
            if (number == 0 || second == NONE || number * 10 + second > most) {
                return number;
            }
            at++;
            return number * 10 + second;
        }

        private int digitAt(int place) {
            if (place >= length || !isIndex(place, MOST_IN_TEXT)) {
                return NONE;
            }
            char sign = signs[place];
            return sign >= '0' && sign <= '9' ? sign - '0' : NONE;
        }
    }
}
