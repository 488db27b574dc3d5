/** The boundaries that the promises 16 to 24 name: what is told of the least and the most, of nothing, and just before. */
public final class ToldEdgesTest {
    private static final int A = 1000;
    private static final int R = 2000;
    private static final int N = TagBus.NONE;

    public static void main(String[] args) {
        aQuestionWhereverItIs();
        shortestAndLongestTime();
        everyTag();
        everyRow();
        holdsAndShares();
        ticksUntilItMaySend();
        longestOfItsQuestions();
        asLongAsThePatience();
        fullAndEmptyTargets();
        whatWouldGoNow();
        nextOfEachKind();
        nextOfNothing();
        nextInTheLatestTick();
        answeredInOneTick();
        answeredInOfEachPlace();
        answeredInBehindRefusals();
        answeredInIfNothingElseIsPut();
        answeredInManyTicks();
        countsOfTrips();
        wentAheadOfAnEarlierOne();
        countsOfTheHistoryAndTheText();
        Due.end();
    }

    private static void question(TagBus bus, int number, int... due) {
        for (int what = 0; what < due.length; what++) {
            Due.is("question(" + number + ", " + what + ") in the tick " + bus.count(0), bus.question(number, what), due[what]);
        }
        Due.is("question(" + number + ", 9)", bus.question(number, 9), due[0] == TagBus.UNKNOWN ? due[0] : TagBus.BAD_VALUE);
    }

    // Promise 16: "0 in a row, 1 in a target and not done, 2 in a target and done, 3 answered, 4 withdrawn", and each NONE
    private static void aQuestionWhereverItIs() {
        TagBus bus = new TagBus();
        bus.set(1, 1);
        bus.setTarget(3, 1, 1);
        bus.setCell(3, 0, 99);
        question(bus, 0, TagBus.UNKNOWN, TagBus.UNKNOWN, TagBus.UNKNOWN);
        bus.read(0, 3, 0);
        bus.write(0, 3, 15, 0);
        bus.read(1, 1, 0);
        bus.read(1, 1, 0);
        question(bus, 0, 0, 3, 0, N, 0, N, N, N, 0);
        question(bus, 1, 0, 3, 15, 0, 0, N, N, N, 0);
        bus.pass(1);
        question(bus, 0, 0, 3, 0, N, 1, 0, N, N, 0);
        bus.pass(1);
        // Question 2 went in this tick, and question 0 is done.
        question(bus, 0, 0, 3, 0, N, 2, 0, 99, N, 0);
        question(bus, 2, 1, 1, 0, N, 1, 1, N, N, 0);
        bus.withdraw(1);
        question(bus, 3, 1, 1, 0, N, 4, N, N, N, 0);
        bus.pass(2);
        question(bus, 0, 0, 3, 0, N, 3, N, 99, 3, 0);
        question(bus, 1, 0, 3, 15, 0, 1, 2, N, N, 0);
        bus.pass(20);
        question(bus, 1, 0, 3, 15, 0, 3, N, 0, 6, 0);
        question(bus, 4, TagBus.UNKNOWN);
    }

    // Promise 16: "the tick of its answer's trip less the one in which it was put into a row"
    private static void shortestAndLongestTime() {
        TagBus bus = new TagBus();
        bus.setTarget(0, 1, 1);
        bus.pass(99);
        bus.read(0, 0, 0);
        Due.row("trips", Due.trips(bus, 2), 0, A);
        Due.is("question(0, 7) is one tick at least", bus.question(0, 7), 1);
        Due.is("master(0, 7)", bus.master(0, 7), 1);
        TagBus waiting = new TagBus();
        waiting.set(0, 1);
        waiting.setTarget(0, 1, 9);
        waiting.read(0, 0, 3);
        waiting.read(0, 0, 3);
        waiting.pass(40);
        Due.is("question(1, 7) counts the ticks in the row", waiting.question(1, 7), 25);
        Due.is("master(0, 7)", waiting.master(0, 7), 25);
    }

    // Promise 17: "UNKNOWN; NONE if it is free"
    private static void everyTag() {
        for (int tags = 1; tags <= 8; tags++) {
            TagBus bus = new TagBus();
            bus.set(0, tags);
            for (int tag = -1; tag <= 9; tag++) {
                boolean there = tag >= 0 && tag < tags;
                Due.is("tag(" + tag + ") of " + tags, bus.tag(tag), there ? N : TagBus.UNKNOWN);
            }
            bus.read(0, 0, 0);
            bus.pass(1);
            Due.is("tag(0) that is lent", bus.tag(0), 0);
            bus.pass(3);
            Due.is("tag(0) that is free again", bus.tag(0), N);
        }
    }

    // Promise 19: "BAD_VALUE if place is negative; NONE if there are not so many"
    private static void everyRow() {
        for (int length = 0; length <= 6; length++) {
            TagBus bus = new TagBus();
            for (int i = 0; i < length; i++) {
                bus.read(2, 0, 0);
            }
            Due.is("master(2, 0)", bus.master(2, 0), length);
            Due.is("row(2, -1)", bus.row(2, -1), TagBus.BAD_VALUE);
            for (int place = 0; place <= 7; place++) {
                Due.is("row(2, " + place + ") of " + length, bus.row(2, place), place < length ? place : N);
            }
            Due.is("row(2, MAX)", bus.row(2, Integer.MAX_VALUE), N);
            Due.is("row(2, MIN)", bus.row(2, Integer.MIN_VALUE), TagBus.BAD_VALUE);
        }
    }

    // Promise 18: "1 for its share, 2 for the tags that it holds"
    private static void holdsAndShares() {
        TagBus bus = new TagBus();
        bus.setShare(3, 8);
        for (int i = 0; i < 4; i++) {
            bus.read(3, i, 3 - i);
        }
        int[] holds = {0, 1, 2, 3, 4, 4, 4, 3, 2, 1, 0, 0};
        for (int tick = 0; tick < holds.length; tick++) {
            Due.is("master(3, 2) in the tick " + tick, bus.master(3, 2), holds[tick]);
            Due.is("count(5) in the tick " + tick, bus.count(5), 4 - holds[tick]);
            Due.is("master(2, 2) in the tick " + tick, bus.master(2, 2), 0);
            Due.is("master(3, 6) in the tick " + tick, bus.master(3, 6), Math.max(0, Math.min(4, tick - 6)));
            bus.pass(1);
        }
        Due.is("master(3, 1)", bus.master(3, 1), 8);
    }

    // Promise 18: "4 for the ticks until it may send again (0 if it may in the next one)"
    private static void ticksUntilItMaySend() {
        TagBus bus = new TagBus();
        bus.setTarget(0, 0, 1);
        bus.setTarget(0, 1, 9);
        bus.read(0, 0, 3);
        bus.read(1, 0, 3);
        Due.is("master(1, 4) at first", bus.master(1, 4), 0);
        Due.row("trips", Due.trips(bus, 2), 0, R + 1);
        for (int left = 2; left >= 0; left--) {
            Due.is("master(1, 4)", bus.master(1, 4), left);
            Due.is("next(1)", bus.next(1), left == 0 ? 2 : N);
            Due.is("pass(1)", bus.pass(1), left == 0 ? 1 : 0);
        }
        Due.is("master(1, 4)", bus.master(1, 4), 4);
        bus.withdraw(1);
        bus.pass(99);
        Due.is("master(1, 4) long behind", bus.master(1, 4), 0);
        Due.is("master(1, 3) long behind", bus.master(1, 3), 2);
    }

    // Promise 18: "7 for the longest time .. of these (NONE without any)"
    private static void longestOfItsQuestions() {
        TagBus bus = new TagBus();
        bus.setTarget(0, 1, 1);
        bus.read(2, 0, 3);
        Due.is("master(2, 7) of one that is not answered", bus.master(2, 7), N);
        bus.pass(4);
        Due.is("master(2, 7) a tick earlier", bus.master(2, 7), N);
        Due.is("master(2, 6) a tick earlier", bus.master(2, 6), 0);
        bus.pass(1);
        Due.is("master(2, 7) of one", bus.master(2, 7), 4);
        bus.read(2, 0, 2);
        bus.pass(9);
        Due.is("master(2, 7), the other took 3", bus.master(2, 7), 4);
        bus.setTarget(0, 1, 2);
        bus.read(2, 0, 3);
        bus.pass(9);
        Due.is("master(2, 7), the third took 5", bus.master(2, 7), 5);
        Due.is("master(2, 6)", bus.master(2, 6), 3);
        for (int i = 0; i < 3; i++) {
            bus.undo();
        }
        Due.is("master(2, 7) behind undo()", bus.master(2, 7), 4);
        Due.is("master(1, 7)", bus.master(1, 7), N);
        bus.read(1, 0, 0);
        bus.withdraw(1);
        Due.is("master(1, 7) of a withdrawn one", bus.master(1, 7), N);
    }

    // Promise 18: "8 for whether it has waited for as many ticks as the patience, or more (1, otherwise 0)"
    private static void asLongAsThePatience() {
        TagBus bus = new TagBus();
        bus.setShare(0, 1);
        bus.setTarget(0, 1, 9);
        bus.read(0, 0, 3);
        bus.pass(1);
        bus.read(0, 1, 0);
        for (int waited = 0; waited <= 11; waited++) {
            Due.is("master(0, 5)", bus.master(0, 5), waited);
            Due.is("master(0, 8), the patience is 12", bus.master(0, 8), 0);
            for (int patience = Math.max(1, waited - 1); patience <= waited + 1; patience++) {
                bus.set(2, patience);
                Due.is("master(0, 8), the patience is " + patience, bus.master(0, 8), waited >= patience ? 1 : 0);
            }
            bus.set(2, 12);
            bus.pass(1);
        }
        Due.is("master(0, 5)", bus.master(0, 5), 12);
        Due.is("master(0, 8), the patience is 12", bus.master(0, 8), 1);
        Due.is("master(1, 8) of an empty row", bus.master(1, 8), 0);
    }

    // Promise 20: "3 for the questions in it, 4 for those of them that are done"
    private static void fullAndEmptyTargets() {
        TagBus bus = new TagBus();
        bus.setTarget(3, 0, 4);
        bus.setTarget(3, 2, 1);
        bus.set(1, 1);
        bus.set(0, 8);
        bus.setShare(0, 8);
        Due.type(bus, "0>3r0;0>3r0;0>3r0;0>3r0;0>1r0;0>1r0");
        bus.ask();
        // The answers of target 3 go in the ticks 6, 8, 10 and 11, those of target 1 in 7 and 9.
        int[] inside = {0, 1, 2, 3, 4, 4, 4, 3, 3, 2, 2, 1};
        int[] done = {0, 0, 0, 0, 1, 2, 3, 3, 3, 2, 2, 1};
        for (int tick = 0; tick < inside.length; tick++) {
            Due.is("target(3, 3) in the tick " + tick, bus.target(3, 3), inside[tick]);
            Due.is("target(3, 4) in the tick " + tick, bus.target(3, 4), done[tick]);
            Due.is("target(2, 3) in the tick " + tick, bus.target(2, 3), 0);
            bus.pass(1);
        }
        Due.is("target(3, 3)", bus.target(3, 3), 0);
        Due.is("target(3, 4)", bus.target(3, 4), 0);
        Due.is("target(3, 5)", bus.target(3, 5), N);
    }

    // Promise 20: "if it was done by steps 1 that were made already (NONE if none would)"
    private static void whatWouldGoNow() {
        TagBus bus = new TagBus();
        bus.set(1, 1);
        bus.read(0, 0, 0);
        bus.pass(3);
        Due.is("target(0, 5), it is done in the next tick", bus.target(0, 5), N);
        Due.is("next(0)", bus.next(0), 0);
        bus.read(1, 1, 0);
        bus.pass(1);
        Due.is("target(0, 5), it is done", bus.target(0, 5), 0);
        bus.pass(1);
        Due.is("target(0, 5), it left", bus.target(0, 5), N);
    }

    // Promise 22: "whether it is an answer (1), a question that goes (0), or one that is refused (2)"
    private static void nextOfEachKind() {
        TagBus bus = new TagBus();
        bus.setTarget(0, 0, 1);
        bus.read(2, 0, 0);
        bus.read(3, 0, 0);
        int[] questions = {0, 1, N, 0, 1};
        int[] kinds = {0, 2, N, 1, 0};
        for (int tick = 0; tick < 5; tick++) {
            for (int twice = 0; twice < 2; twice++) {
                Due.is("next(0) in the tick " + tick, bus.next(0), questions[tick]);
                Due.is("next(1) in the tick " + tick, bus.next(1), kinds[tick]);
            }
            Due.is("count(0)", bus.count(0), tick);
            Due.is("pass(1)", bus.pass(1), questions[tick] == N ? 0 : 1);
        }
    }

    // Promise 22: "NONE if none is made"
    private static void nextOfNothing() {
        TagBus bus = new TagBus();
        Due.is("next(0)", bus.next(0), N);
        Due.is("next(1)", bus.next(1), N);
        Due.is("next(-1)", bus.next(-1), TagBus.BAD_VALUE);
        Due.is("next(2)", bus.next(2), TagBus.BAD_VALUE);
        bus.read(0, 0, 0);
        bus.withdraw(0);
        Due.is("next(0) of a withdrawn one", bus.next(0), N);
        bus.read(0, 0, 3);
        bus.pass(1);
        Due.is("next(1) until it is done", bus.next(1), N);
        bus.pass(4);
        Due.is("next(1) until it is done", bus.next(1), N);
        bus.pass(1);
        Due.is("next(1) of the answer", bus.next(1), 1);
        bus.pass(1);
        Due.is("next(1) behind all", bus.next(1), N);
    }

    /** Nothing is said of a last tick in the promises 22 and 23: they tell what the ticks would make. */
    private static void nextInTheLatestTick() {
        TagBus bus = new TagBus();
        for (int i = 0; i < 101; i++) {
            bus.pass(99);
        }
        Due.is("next(0)", bus.next(0), N);
        bus.read(1, 0, 0);
        Due.is("next(0)", bus.next(0), 0);
        Due.is("next(1)", bus.next(1), 0);
        Due.is("answeredIn(0)", bus.answeredIn(0), 4);
        Due.is("count(0)", bus.count(0), 9999);
        Due.is("pass(1)", bus.pass(1), TagBus.FULL);
    }

    // Promise 23: "in how many ticks a question is answered"
    private static void answeredInOneTick() {
        TagBus bus = new TagBus();
        bus.setTarget(0, 1, 1);
        bus.read(0, 0, 0);
        Due.is("answeredIn(0) is two ticks in a row", bus.answeredIn(0), 2);
        bus.pass(1);
        Due.is("answeredIn(0)", bus.answeredIn(0), 1);
        bus.pass(1);
        Due.is("answeredIn(0)", bus.answeredIn(0), TagBus.NOT_POSSIBLE);
    }

    // Promise 23: "NOT_POSSIBLE if it is answered or withdrawn", and not for those in a row, in a target, or done
    private static void answeredInOfEachPlace() {
        TagBus bus = new TagBus();
        bus.read(0, 0, 3);
        bus.read(0, 0, 0);
        bus.read(0, 1, 0);
        Due.is("answeredIn(1)", bus.answeredIn(1), 8);
        bus.pass(5);
        Due.is("question(0, 4)", bus.question(0, 4), 1);
        Due.is("question(1, 4)", bus.question(1, 4), 2);
        Due.is("question(2, 4)", bus.question(2, 4), 0);
        // Answers in the ticks 6 and 7; question 2 goes in the tick 8.
        Due.is("answeredIn(0)", bus.answeredIn(0), 2);
        Due.is("answeredIn(1)", bus.answeredIn(1), 3);
        Due.is("answeredIn(2)", bus.answeredIn(2), 7);
        Due.is("answeredIn(3)", bus.answeredIn(3), TagBus.UNKNOWN);
        Due.is("answeredIn(-1)", bus.answeredIn(-1), TagBus.UNKNOWN);
        bus.pass(3);
        Due.is("answeredIn(0) of an answered one", bus.answeredIn(0), TagBus.NOT_POSSIBLE);
        Due.is("answeredIn(1) of an answered one", bus.answeredIn(1), TagBus.NOT_POSSIBLE);
        Due.is("answeredIn(2)", bus.answeredIn(2), 4);
        bus.withdraw(0);
        Due.is("answeredIn(2) of a withdrawn one", bus.answeredIn(2), TagBus.NOT_POSSIBLE);
        bus.undo();
        Due.is("answeredIn(2) behind undo()", bus.answeredIn(2), 4);
    }

    private static void answeredInBehindRefusals() {
        TagBus bus = new TagBus();
        bus.setTarget(0, 0, 1);
        bus.setTarget(0, 1, 9);
        bus.read(0, 0, 3);
        bus.read(1, 0, 3);
        // Refused in the ticks 1, 4 and 9, it goes in the tick 18, and its answer in the tick 30.
        Due.is("answeredIn(1)", bus.answeredIn(1), 31);
        bus.pass(10);
        Due.is("count(8)", bus.count(8), 3);
        Due.is("answeredIn(1)", bus.answeredIn(1), 21);
        bus.pass(20);
        Due.is("answeredIn(1)", bus.answeredIn(1), 1);
        Due.row("trips", Due.trips(bus, 1), A + 1);
    }

    // Promise 23: "if nothing else is put into rows"
    private static void answeredInIfNothingElseIsPut() {
        TagBus bus = new TagBus();
        bus.setShare(0, 1);
        bus.read(0, 0, 0);
        bus.read(0, 0, 0);
        Due.is("answeredIn(1)", bus.answeredIn(1), 8);
        // What is told counts on what is in the rows now, and on the settings as they are now.
        bus.read(1, 0, 3);
        // Question 2 comes in the tick 1 and is done in 7; question 1 comes in 4 and is done in 7, behind it.
        Due.is("answeredIn(1) behind one more", bus.answeredIn(1), 9);
        bus.setShare(0, 2);
        bus.setTarget(0, 0, 4);
        bus.setTarget(0, 2, 1);
        // It comes in the tick 2, is done in 5, and goes ahead of question 2.
        Due.is("answeredIn(1) with other settings", bus.answeredIn(1), 6);
    }

    // Promise 23: "Returns the ticks, up to 999": with one tag, 24 questions in rows and the longest delay
    private static void answeredInManyTicks() {
        TagBus bus = new TagBus();
        bus.set(0, 1);
        bus.set(2, 50);
        for (int i = 0; i < 4; i++) {
            bus.setTarget(i, 1, 9);
        }
        for (int i = 0; i < 24; i++) {
            bus.read(i / 6, i / 6, 15);
        }
        int farthest = 0;
        for (int number = 0; number < 24; number++) {
            int ticks = bus.answeredIn(number);
            Due.is("answeredIn(" + number + ") is a number of rounds", ticks % 13, 0);
            farthest = Math.max(farthest, ticks);
        }
        Due.is("the last one", farthest, 24 * 13);
        int[] before = new int[24];
        for (int number = 0; number < 24; number++) {
            before[number] = bus.answeredIn(number);
        }
        for (int i = 0; i < 3; i++) {
            bus.pass(99);
        }
        for (int number = 0; number < 24; number++) {
            int left = before[number] - 297;
            Due.is("answeredIn(" + number + ")", bus.answeredIn(number), left > 0 ? left : TagBus.NOT_POSSIBLE);
        }
        bus.pass(15);
        for (int number = 0; number < 24; number++) {
            Due.is("question(" + number + ", 7)", bus.question(number, 7), before[number] - 1);
        }
    }

    // Promise 24: "6 for trips of answers so far, 7 for trips of questions .., 8 for refusals so far, 9 for ticks without a trip"
    private static void countsOfTrips() {
        TagBus bus = new TagBus();
        bus.setTarget(0, 0, 1);
        bus.read(0, 0, 0);
        bus.read(1, 0, 0);
        // The question 0, a refusal, no trip, the answer of 0, the question 1, no trip, no trip, its answer.
        int[][] due = {{0, 0, 0, 0}, {0, 1, 0, 0}, {0, 1, 1, 0}, {0, 1, 1, 1}, {1, 1, 1, 1}, {1, 2, 1, 1}, {1, 2, 1, 2},
            {1, 2, 1, 3}, {2, 2, 1, 3}, {2, 2, 1, 4}};
        for (int tick = 0; tick < due.length; tick++) {
            Due.is("count(0)", bus.count(0), tick);
            for (int i = 0; i < 4; i++) {
                Due.is("count(" + (6 + i) + ") in the tick " + tick, bus.count(6 + i), due[tick][i]);
            }
            bus.pass(1);
        }
        bus.undo();
        bus.undo();
        bus.undo();
        Due.is("count(6) behind undo()", bus.count(6), 1);
        Due.is("count(9) behind undo()", bus.count(9), 3);
        Due.is("count(4)", bus.count(4), 2);
        bus.withdraw(1);
        bus.read(1, 0, 0);
        bus.withdraw(1);
        Due.is("count(4) counts withdrawn ones", bus.count(4), 3);
    }

    // Promise 24: "10 for answers that went ahead of one of a question that had come to the same target earlier"
    private static void wentAheadOfAnEarlierOne() {
        TagBus bus = new TagBus();
        bus.set(0, 8);
        bus.setShare(0, 8);
        bus.setTarget(0, 0, 4);
        bus.setTarget(0, 2, 1);
        bus.setTarget(0, 1, 9);
        bus.read(0, 0, 3);
        bus.read(0, 0, 3);
        bus.read(0, 1, 0);
        bus.pass(3);
        bus.setTarget(0, 1, 1);
        bus.read(0, 0, 0);
        bus.pass(1);
        Due.is("count(10)", bus.count(10), 0);
        Due.is("pass(1)", bus.pass(1), 1);
        // Question 3 went ahead of two at once: it is one answer.
        Due.is("question(3, 4)", bus.question(3, 4), 3);
        Due.is("count(10)", bus.count(10), 1);
        Due.is("pass(1)", bus.pass(1), 1);
        Due.is("question(2, 4), of another target", bus.question(2, 4), 3);
        Due.is("count(10)", bus.count(10), 1);
        // The two that came earlier go in the order in which they came: none of them is ahead of the other.
        Due.is("pass(20)", bus.pass(20), 2);
        Due.is("count(10)", bus.count(10), 1);
        bus.undo();
        bus.undo();
        bus.undo();
        Due.is("count(10) behind undo()", bus.count(10), 0);
    }

    // Promise 24: "11 for the states in the history, 12 for the length of the text"
    private static void countsOfTheHistoryAndTheText() {
        TagBus bus = new TagBus();
        for (int i = 0; i <= 6; i++) {
            Due.is("count(11)", bus.count(11), Math.min(4, i));
            bus.pass(1);
        }
        for (int i = 0; i <= 62; i++) {
            Due.is("count(12)", bus.count(12), Math.min(60, i));
            Due.is("type('x')", bus.type('x'), i < 60 ? i + 1 : TagBus.FULL);
        }
        bus.keep();
        bus.undo();
        Due.is("count(12) behind undo()", bus.count(12), 60);
        Due.is("count(11) behind undo()", bus.count(11), 3);
        bus.clearText();
        bus.restore();
        Due.is("count(12) behind restore()", bus.count(12), 0);
        Due.is("count(11) behind restore()", bus.count(11), 4);
    }
}
