/** The boundaries that "A tick" names: a method for each sentence, which stands above it. */
public final class TickEdgesTest {
    private static final int A = 1000;
    private static final int R = 2000;
    private static final int N = TagBus.NONE;

    public static void main(String[] args) {
        doneInTheOrderOfComing();
        oneTripInATick();
        noTrip();
        orderZeroWaitsForTheFirst();
        orderOneTakesTheOneDoneFirst();
        ofSeveralDoneInOneTick();
        theTickBeforeWhichItDoesNotSend();
        noTagIsFree();
        fewerTagsThanTheShare();
        onlyTheFirstOfTheRow();
        mannerZero();
        mannerOne();
        mannerTwo();
        mannerTwoAheadOfAllTrips();
        mannerTwoBehindARefusal();
        mannerTwoKeepsTheLatestTrip();
        behindThreeComesZeroForTargets();
        behindThreeComesZeroForMasters();
        exactlyThePatience();
        patienceOfOne();
        patienceOfFifty();
        patienceOfThoseThatCanGo();
        waitedTheLongestAndTheLowest();
        turnBehindTheOneThatGoes();
        asManyAsItsRoomOrMore();
        refusedOneStays();
        pausesDouble();
        countBecomesZero();
        manyRefusals();
        waits();
        emptyRowsDoNotWait();
        tickByOne();
        Due.end();
    }

    // "the questions that are done in this tick are done, in the order in which they came to it", not in that of numbers
    private static void doneInTheOrderOfComing() {
        TagBus bus = new TagBus();
        bus.write(3, 0, 0, 33);
        bus.write(1, 0, 0, 11);
        bus.setTarget(0, 1, 4);
        Due.row("trips", Due.trips(bus, 1), 1);
        bus.setTarget(0, 1, 3);
        Due.row("trips", Due.trips(bus, 1), 0);
        bus.pass(2);
        Due.is("target(0, 4) ahead of the tick 4", bus.target(0, 4), 0);
        Due.row("trips", Due.trips(bus, 2), A + 1, A);
        Due.is("question(1, 6)", bus.question(1, 6), 0);
        Due.is("question(0, 6)", bus.question(0, 6), 11);
        Due.is("cell(0, 0)", bus.cell(0, 0), 33);
    }

    // "One trip is made, if any can be."
    private static void oneTripInATick() {
        TagBus bus = new TagBus();
        for (int i = 0; i < 4; i++) {
            bus.read(i, i, 3 - i);
        }
        // They are done in the ticks 6, 6, 6 and 6.
        Due.is("pass(4)", bus.pass(4), 4);
        Due.is("pass(2)", bus.pass(2), 0);
        for (int i = 0; i < 4; i++) {
            Due.is("pass(1)", bus.pass(1), 1);
            Due.is("count(6)", bus.count(6), i + 1);
            Due.is("count(7)", bus.count(7), 4);
        }
    }

    private static void noTrip() {
        TagBus bus = new TagBus();
        Due.is("pass(1) without a question", bus.pass(1), 0);
        Due.is("count(9)", bus.count(9), 1);
        Due.is("count(0)", bus.count(0), 1);
        bus.read(0, 0, 0);
        Due.is("pass(4)", bus.pass(4), 2);
        Due.is("count(9)", bus.count(9), 3);
    }

    private static TagBus inOneTarget(int order, int... addresses) {
        TagBus bus = new TagBus();
        bus.set(0, 8);
        bus.setShare(0, 8);
        bus.setTarget(0, 0, 4);
        bus.setTarget(0, 1, 4);
        bus.setTarget(0, 2, order);
        for (int address : addresses) {
            bus.read(0, 0, address);
        }
        return bus;
    }

    // "with the order 0, that of the question that came first of those in it, if that is done"
    private static void orderZeroWaitsForTheFirst() {
        TagBus bus = inOneTarget(0, 3, 0, 0, 0);
        Due.row("trips", Due.trips(bus, 7), 0, 1, 2, 3, N, N, N);
        // In the ticks 5 and 6 the questions 1 and 2 were done, but question 0 came first.
        Due.is("target(0, 4)", bus.target(0, 4), 2);
        Due.is("target(0, 5)", bus.target(0, 5), N);
        Due.row("trips", Due.trips(bus, 5), A, A + 1, A + 2, A + 3, N);
        Due.is("count(10)", bus.count(10), 0);
    }

    // "with the order 1, that of the one that was done first of those in it that are done"
    private static void orderOneTakesTheOneDoneFirst() {
        TagBus bus = inOneTarget(1, 3, 0, 0, 0);
        Due.row("trips", Due.trips(bus, 5), 0, 1, 2, 3, N);
        Due.is("target(0, 5)", bus.target(0, 5), N);
        Due.row("trips", Due.trips(bus, 4), A + 1, A + 2, A, A + 3);
        Due.is("count(10)", bus.count(10), 2);
        // With questions first, two are done ahead of the first trip of an answer.
        TagBus late = inOneTarget(1, 2, 0);
        late.set(1, 1);
        late.pass(2);
        for (int i = 0; i < 3; i++) {
            late.read(0, 1, 0);
            late.read(0, 2, 0);
        }
        late.pass(4);
        Due.is("target(0, 4)", late.target(0, 4), 1);
        Due.is("target(0, 5)", late.target(0, 5), 1);
        late.pass(1);
        Due.is("target(0, 4)", late.target(0, 4), 2);
        Due.is("the one done later came first, and does not go first", late.target(0, 5), 1);
        late.setTarget(0, 2, 0);
        Due.is("target(0, 5) with the order 0", late.target(0, 5), 0);
    }

    // "(of several done in one tick, the one that came first)", whatever their numbers are
    private static void ofSeveralDoneInOneTick() {
        TagBus bus = new TagBus();
        bus.setTarget(0, 2, 1);
        bus.read(3, 0, 0);
        bus.read(1, 0, 1);
        Due.row("trips", Due.trips(bus, 4), 1, 0, N, N);
        Due.row("trips", Due.trips(bus, 2), A + 1, A);
        Due.is("count(10)", bus.count(10), 0);
    }

    /** Master 0 keeps target 0 full until the tick 12; question 1 of master 1 was refused in the tick 1. */
    private static TagBus refusedOnce() {
        TagBus bus = new TagBus();
        bus.setTarget(0, 0, 1);
        bus.setTarget(0, 1, 9);
        bus.read(0, 0, 3);
        bus.read(1, 0, 3);
        Due.row("trips", Due.trips(bus, 2), 0, R + 1);
        return bus;
    }

    // "if the tick is not less than the one before which it does not send"
    private static void theTickBeforeWhichItDoesNotSend() {
        TagBus bus = refusedOnce();
        bus.setTarget(0, 0, 4);
        // It is 1 + 1 + 2; there is room for it earlier.
        int[] until = {2, 1, 0};
        for (int i = 0; i < 3; i++) {
            Due.is("master(1, 4) in the tick " + (2 + i), bus.master(1, 4), until[i]);
            Due.row("trip in the tick " + (2 + i), Due.trips(bus, 1), i < 2 ? N : 1);
        }
    }

    // "any tag is free": without one none is refused either
    private static void noTagIsFree() {
        TagBus bus = refusedOnce();
        bus.set(0, 1);
        Due.row("trips", Due.trips(bus, 10), N, N, N, N, N, N, N, N, N, N);
        Due.is("master(1, 3)", bus.master(1, 3), 1);
        Due.row("trips", Due.trips(bus, 2), A, 1);
        TagBus two = refusedOnce();
        two.set(0, 2);
        Due.row("trips", Due.trips(two, 3), N, N, R + 1);
    }

    // "and it holds fewer tags than its share": otherwise it is not refused either
    private static void fewerTagsThanTheShare() {
        TagBus bus = new TagBus();
        bus.setTarget(0, 0, 1);
        bus.setShare(0, 1);
        bus.read(0, 0, 0);
        bus.read(0, 0, 0);
        Due.row("trips", Due.trips(bus, 5), 0, N, N, A, 1);
        TagBus two = new TagBus();
        two.setTarget(0, 0, 1);
        two.read(0, 0, 0);
        two.read(0, 0, 0);
        Due.row("trips", Due.trips(two, 2), 0, R + 1);
        // A share that is less than what it holds.
        TagBus less = new TagBus();
        less.setShare(0, 3);
        less.set(1, 1);
        for (int i = 0; i < 4; i++) {
            less.read(0, i, 3);
        }
        less.pass(3);
        less.setShare(0, 2);
        Due.row("trips", Due.trips(less, 6), N, N, N, A, A + 1, 3);
    }

    // "A question can go from a master: the first one of its row"
    private static void onlyTheFirstOfTheRow() {
        TagBus bus = refusedOnce();
        bus.read(1, 2, 0);
        // The second one could be taken, but stands behind the refused one.
        Due.row("trips", Due.trips(bus, 3), N, N, R + 1);
        Due.is("row(1, 0)", bus.row(1, 0), 1);
        Due.is("row(1, 1)", bus.row(1, 1), 2);
    }

    /** In the tick 5 the answers of the questions 0 to 2 can go, and the questions 3 and 4 of master 1. */
    private static TagBus bothCanGo(int manner) {
        TagBus bus = new TagBus();
        bus.set(0, 8);
        bus.setShare(0, 3);
        bus.set(1, manner);
        for (int i = 0; i < 3; i++) {
            bus.read(0, i, 2 - i);
        }
        Due.row("trips ahead", Due.trips(bus, 5), 0, 1, 2, N, N);
        bus.read(1, 3, 0);
        bus.read(1, 3, 0);
        return bus;
    }

    // "0 an answer, if any can go, otherwise a question"
    private static void mannerZero() {
        Due.row("trips", Due.trips(bothCanGo(0), 9), A, A + 1, A + 2, 3, 4, N, A + 3, A + 4, N);
    }

    // "1 a question, if any can go, otherwise an answer"
    private static void mannerOne() {
        Due.row("trips", Due.trips(bothCanGo(1), 8), 3, 4, A, A + 1, A + 2, A + 3, A + 4, N);
    }

    // "2 the other one of both than in the latest trip .., if any of these can go, otherwise the one of both as in that"
    private static void mannerTwo() {
        // When question 4 has gone, none is left: answers go behind answers; ahead of the tick 5, questions behind questions.
        Due.row("trips", Due.trips(bothCanGo(2), 8), A, 3, A + 1, 4, A + 2, A + 3, A + 4, N);
        TagBus bus = bothCanGo(2);
        bus.setShare(1, 1);
        // Question 4 can't go until the answer of question 3 has gone.
        Due.row("trips with a small share", Due.trips(bus, 6), A, 3, A + 1, A + 2, A + 3, 4);
    }

    // "(ahead of all trips: a question)"
    private static void mannerTwoAheadOfAllTrips() {
        TagBus bus = new TagBus();
        bus.set(1, 2);
        bus.pass(9);
        bus.read(2, 1, 0);
        Due.row("trips", Due.trips(bus, 1), 0);
    }

    // "the latest trip, which may have been refused"
    private static void mannerTwoBehindARefusal() {
        TagBus bus = new TagBus();
        bus.set(1, 2);
        bus.setTarget(0, 0, 1);
        bus.read(0, 0, 2);
        bus.read(0, 1, 0);
        // Question 0 is done in the tick 5, question 1 in the tick 4.
        bus.pass(4);
        bus.read(1, 0, 0);
        bus.read(2, 2, 0);
        bus.read(3, 3, 0);
        // Behind question 1 an answer; behind that a question, which is refused; behind that an answer again.
        Due.row("trips", Due.trips(bus, 4), A + 1, R + 2, A, 3);
    }

    // "than in the latest trip": ticks without one lie between, and trips that were made with another manner count
    private static void mannerTwoKeepsTheLatestTrip() {
        TagBus bus = new TagBus();
        bus.read(0, 0, 0);
        bus.read(0, 1, 1);
        bus.read(1, 2, 0);
        // The questions 0, 2 and 1 are done in the ticks 3, 4 and 6.
        Due.row("trips of the manner 0", Due.trips(bus, 4), 0, 2, 1, A);
        bus.set(1, 2);
        bus.read(3, 3, 0);
        Due.row("behind an answer of the manner 0 a question", Due.trips(bus, 3), 3, A + 2, A + 1);
        TagBus still = new TagBus();
        still.set(1, 2);
        still.setShare(0, 1);
        still.read(0, 0, 0);
        still.pass(3);
        still.read(1, 1, 0);
        Due.row("behind a question and two ticks without a trip an answer", Due.trips(still, 2), A, 1);
    }

    // "or the next target behind that (behind 3 comes 0) from which one can go; it is the turn of the target behind it then"
    private static void behindThreeComesZeroForTargets() {
        for (int latest = 0; latest < 4; latest++) {
            TagBus bus = new TagBus();
            bus.setShare(0, 8);
            bus.read(0, latest, 0);
            bus.pass(4);
            for (int i = 0; i < 4; i++) {
                bus.read(0, i, 3 - i);
            }
            // All four are done in the same tick.
            bus.pass(6);
            int[] due = new int[4];
            for (int i = 0; i < 4; i++) {
                due[i] = A + 1 + (latest + 1 + i) % 4;
            }
            Due.row("answers behind one of target " + latest, Due.trips(bus, 4), due);
            // Only the target that had the latest answer has one: the turn goes round to it.
            bus.read(0, latest, 0);
            Due.row("the answer of target " + latest, Due.trips(bus, 4), 5, N, N, A + 5);
        }
        TagBus bus = new TagBus();
        bus.read(0, 3, 0);
        bus.read(0, 0, 0);
        Due.row("it is the turn of target 0 at first", Due.trips(bus, 5), 0, 1, N, A, A + 1);
    }

    private static void behindThreeComesZeroForMasters() {
        for (int latest = 0; latest < 4; latest++) {
            TagBus bus = wideWithPatience();
            bus.read(latest, latest, 3);
            bus.pass(1);
            for (int i = 0; i < 4; i++) {
                bus.read(i, i, 3);
            }
            int[] due = new int[4];
            for (int i = 0; i < 4; i++) {
                due[i] = 1 + (latest + 1 + i) % 4;
            }
            Due.row("questions behind one of master " + latest, Due.trips(bus, 4), due);
            bus.set(0, 8);
            bus.setShare(latest, 3);
            bus.setTarget(latest, 0, 3);
            bus.read(latest, latest, 3);
            Due.row("the question of master " + latest, Due.trips(bus, 1), 5);
        }
        TagBus bus = wideWithPatience();
        bus.read(3, 0, 0);
        bus.read(0, 0, 0);
        Due.row("it is the turn of master 0 at first", Due.trips(bus, 2), 1, 0);
    }

    private static TagBus wideWithPatience() {
        TagBus bus = new TagBus();
        bus.set(0, 7);
        bus.set(2, 50);
        for (int i = 0; i < 4; i++) {
            bus.setTarget(i, 1, 9);
        }
        return bus;
    }

    /** The only tag is lent until the answer in the tick 12; it is the turn of master 3 then. */
    private static TagBus lentUntilTwelve(int patience) {
        TagBus bus = new TagBus();
        bus.set(0, 1);
        if (patience != 12) {
            bus.set(2, patience);
        }
        bus.setTarget(0, 1, 9);
        bus.read(2, 0, 3);
        bus.pass(1);
        return bus;
    }

    /** Question 1 of master 0 and question 2 of master 3 have waited for so many ticks in the tick 13. */
    private static TagBus waited(int patience, int ticks) {
        TagBus bus = lentUntilTwelve(patience);
        if (ticks < 12) {
            bus.pass(12 - ticks);
        }
        bus.read(0, 1, 0);
        bus.read(3, 1, 0);
        bus.pass(ticks);
        Due.is("count(0)", bus.count(0), 13);
        Due.is("master(0, 5)", bus.master(0, 5), ticks);
        Due.is("master(3, 5)", bus.master(3, 5), ticks);
        return bus;
    }

    // "has waited for at least as many ticks as the patience (1 to 50; 12 at first)"
    private static void exactlyThePatience() {
        for (int patience = 2; patience <= 12; patience++) {
            TagBus less = waited(patience, patience - 1);
            Due.is("master(0, 8)", less.master(0, 8), 0);
            Due.is("master(3, 8)", less.master(3, 8), 0);
            Due.row("one tick less than the patience " + patience, Due.trips(less, 1), 2);
            TagBus enough = waited(patience, patience);
            Due.is("master(0, 8)", enough.master(0, 8), 1);
            Due.is("master(3, 8)", enough.master(3, 8), 1);
            Due.row("the patience " + patience, Due.trips(enough, 1), 1);
        }
    }

    private static void patienceOfOne() {
        TagBus bus = new TagBus();
        bus.set(2, 1);
        bus.read(2, 0, 0);
        bus.pass(1);
        bus.read(0, 1, 0);
        bus.read(3, 1, 0);
        // None has waited yet: by turns.
        Due.is("master(0, 8)", bus.master(0, 8), 0);
        Due.row("trips", Due.trips(bus, 1), 2);
        Due.is("master(0, 8)", bus.master(0, 8), 1);
        Due.is("master(3, 8)", bus.master(3, 8), 0);
        Due.row("trips", Due.trips(bus, 2), 1, A);
        TagBus one = waited(1, 1);
        Due.row("trips", Due.trips(one, 1), 1);
    }

    private static void patienceOfFifty() {
        TagBus bus = new TagBus();
        bus.setTarget(0, 0, 1);
        bus.setTarget(0, 1, 9);
        bus.setShare(0, 1);
        bus.set(2, 50);
        // Master 0 keeps the target full, and master 1 is refused again and again.
        Due.type(bus, "0>0r3;0>0r3;0>0r3;0>0r3;0>0r3;1>0r3");
        bus.ask();
        bus.pass(49);
        Due.is("master(1, 5) in the tick 49", bus.master(1, 5), 49);
        Due.is("master(1, 8) in the tick 49", bus.master(1, 8), 0);
        bus.pass(1);
        Due.is("master(1, 5) in the tick 50", bus.master(1, 5), 50);
        Due.is("master(1, 8) in the tick 50", bus.master(1, 8), 1);
    }

    // "if any of the masters whose questions can go has waited": not one whose question can't
    private static void patienceOfThoseThatCanGo() {
        TagBus bus = refusedOnce();
        bus.set(2, 1);
        bus.read(0, 1, 0);
        bus.read(3, 1, 0);
        Due.is("master(1, 8)", bus.master(1, 8), 1);
        // Master 1 has waited the longest, but does not send before the tick 4; then it is the one, not master 0.
        Due.row("trips", Due.trips(bus, 1), 3);
        Due.row("trips", Due.trips(bus, 1), 2);
        bus.read(0, 2, 0);
        bus.read(3, 2, 0);
        Due.row("trips", Due.trips(bus, 1), R + 1);
    }

    // "the one of these that has waited the longest, of several the lowest"
    private static void waitedTheLongestAndTheLowest() {
        for (int longest = 0; longest < 4; longest++) {
            TagBus bus = lentUntilTwelve(3);
            bus.read(longest, 1, 0);
            bus.pass(1);
            for (int i = 0; i < 4; i++) {
                if (i != longest) {
                    bus.read(i, 1, 0);
                }
            }
            bus.pass(11);
            Due.is("master(" + longest + ", 5)", bus.master(longest, 5), 12);
            Due.is("master(.., 5)", bus.master((longest + 1) % 4, 5), 11);
            Due.row("trips, master " + longest + " waited the longest", Due.trips(bus, 1), 1);
        }
        for (int lowest = 0; lowest < 4; lowest++) {
            TagBus bus = lentUntilTwelve(3);
            for (int i = 3; i >= lowest; i--) {
                bus.read(i, 1, 0);
            }
            bus.pass(12);
            Due.row("trips, master " + lowest + " is the lowest", Due.trips(bus, 1), 4 - lowest);
        }
    }

    // "in both ways it is the turn of the master behind the one that goes then"
    private static void turnBehindTheOneThatGoes() {
        TagBus bus = lentUntilTwelve(12);
        for (int i = 0; i < 4; i++) {
            bus.read(i, 1, 0);
        }
        bus.pass(12);
        bus.withdraw(0);
        Due.row("the patience takes master 1", Due.trips(bus, 1), 2);
        bus.set(2, 50);
        bus.read(0, 1, 0);
        Due.row("by turns master 2", Due.trips(bus, 4), N, N, A + 2, 3);
    }

    // "if its target has as many questions in it as its room, or more"
    private static void asManyAsItsRoomOrMore() {
        for (int room = 1; room <= 4; room++) {
            TagBus bus = new TagBus();
            bus.set(0, 8);
            bus.setShare(0, 3);
            bus.setTarget(0, 1, 9);
            bus.setTarget(0, 0, 4);
            for (int i = 0; i < 3; i++) {
                bus.read(0, 0, 3);
            }
            bus.pass(3);
            bus.setTarget(0, 0, room);
            bus.read(1, 0, 3);
            // Three are in it: less than the room 4, as many as the room 3, and more than 2 and 1.
            Due.row("trips with the room " + room, Due.trips(bus, 1), room == 4 ? 3 : R + 3);
            Due.is("target(0, 3)", bus.target(0, 3), room == 4 ? 4 : 3);
        }
    }

    // "it is refused: it stays the first one of its row, and no tag is lent"
    private static void refusedOneStays() {
        TagBus bus = refusedOnce();
        Due.is("row(1, 0)", bus.row(1, 0), 1);
        Due.is("master(1, 0)", bus.master(1, 0), 1);
        Due.is("master(1, 2)", bus.master(1, 2), 0);
        Due.is("question(1, 4)", bus.question(1, 4), 0);
        Due.is("question(1, 5)", bus.question(1, 5), N);
        Due.is("question(1, 8)", bus.question(1, 8), 1);
        Due.is("tag(1)", bus.tag(1), N);
        Due.is("count(5)", bus.count(5), 3);
        Due.is("count(7)", bus.count(7), 1);
        Due.is("count(8)", bus.count(8), 1);
        Due.is("count(9)", bus.count(9), 0);
    }

    // "plus 1, plus the lesser one of 16 and 2 to the power of that count"
    private static void pausesDouble() {
        TagBus bus = refusedOnce();
        bus.setShare(0, 1);
        for (int i = 0; i < 4; i++) {
            bus.read(0, 0, 3);
        }
        int[] pauses = {2, 4, 8, 16, 16};
        int[] ticks = {1, 4, 9, 18, 35};
        for (int i = 0; i < 5; i++) {
            if (i > 0) {
                bus.pass(ticks[i] - bus.count(0));
                Due.row("trip in the tick " + ticks[i], Due.trips(bus, 1), R + 1);
            }
            Due.is("master(1, 3) behind the tick " + ticks[i], bus.master(1, 3), i + 1);
            Due.is("master(1, 4) behind the tick " + ticks[i], bus.master(1, 4), pauses[i]);
            Due.is("count(8) behind the tick " + ticks[i], bus.count(8), i + 1);
        }
        Due.is("question(1, 8)", bus.question(1, 8), 5);
    }

    // "the count of refusals becomes 0"
    private static void countBecomesZero() {
        TagBus bus = refusedOnce();
        bus.pass(3);
        Due.is("master(1, 3)", bus.master(1, 3), 2);
        bus.setTarget(0, 0, 2);
        bus.read(1, 0, 3);
        bus.pass(4);
        Due.row("trips", Due.trips(bus, 2), 1, R + 2);
        // One that is refused behind a trip pauses for two ticks again; that of the question stays.
        Due.is("master(1, 3)", bus.master(1, 3), 1);
        Due.is("master(1, 4)", bus.master(1, 4), 2);
        Due.is("question(1, 8)", bus.question(1, 8), 2);
        Due.is("question(2, 8)", bus.question(2, 8), 1);
    }

    /** 2 to the power of a count that an int does not hold: 16 is the lesser one for ever. */
    private static void manyRefusals() {
        TagBus bus = new TagBus();
        bus.setTarget(0, 0, 1);
        bus.setTarget(0, 1, 9);
        int tick = 0;
        int refusals = 0;
        int nextRefusal = 1;
        while (refusals < 70) {
            // Master 0 fills the target again as soon as it can; its answer must not leave just ahead of a refusal.
            int address = 3;
            while (hits(nextRefusal, refusals, tick + 9 + address)) {
                address--;
            }
            bus.read(0, 0, address);
            if (tick == 0) {
                bus.read(1, 0, 0);
            }
            int end = tick + 10 + address;
            bus.pass(end - tick);
            tick = end;
            while (nextRefusal < tick) {
                refusals++;
                nextRefusal += 1 + (refusals < 4 ? 1 << refusals : 16);
            }
            Due.is("master(1, 3) in the tick " + tick, bus.master(1, 3), refusals);
            Due.is("master(1, 4) in the tick " + tick, bus.master(1, 4), nextRefusal - tick);
        }
        Due.is("count(8)", bus.count(8), refusals);
        Due.is("question(1, 8)", bus.question(1, 8), refusals);
    }

    private static boolean hits(int nextRefusal, int refusals, int answer) {
        int next = nextRefusal;
        for (int count = refusals + 1; next < answer; count++) {
            next += 1 + (count < 4 ? 1 << count : 16);
        }
        return next == answer || next == answer + 1;
    }

    // "Each master has waited for one tick more, but for 0 ticks if .. a question of it went in this tick that was not refused."
    private static void waits() {
        TagBus bus = new TagBus();
        bus.setTarget(0, 0, 1);
        Due.type(bus, "0>0r3;0>1r3;1>0r3;2>2r3;2>2r3");
        bus.ask();
        // Question 0 goes, question 2 is refused, question 3 goes, and question 1 goes.
        int[] trips = {0, R + 2, 3, 1};
        int[][] waited = {{0, 1, 1, 0}, {1, 2, 2, 0}, {2, 3, 0, 0}, {0, 4, 1, 0}};
        for (int tick = 0; tick < 4; tick++) {
            Due.row("trip in the tick " + tick, Due.trips(bus, 1), trips[tick]);
            for (int i = 0; i < 4; i++) {
                Due.is("master(" + i + ", 5) behind the tick " + tick, bus.master(i, 5), waited[tick][i]);
            }
        }
        // A trip of its answer is none of its question: master 2 waits on.
        bus.setShare(2, 1);
        Due.is("pass(4)", bus.pass(4), 2);
        Due.is("master(2, 5)", bus.master(2, 5), 5);
    }

    // "for 0 ticks if its row is empty", and "(A master whose row becomes empty otherwise has waited for 0 ticks, too.)"
    private static void emptyRowsDoNotWait() {
        TagBus bus = lentUntilTwelve(12);
        Due.is("master(2, 5), its row became empty", bus.master(2, 5), 0);
        bus.read(1, 1, 0);
        bus.read(1, 1, 0);
        bus.pass(5);
        Due.is("master(0, 5), its row is empty", bus.master(0, 5), 0);
        Due.is("master(1, 5)", bus.master(1, 5), 5);
        Due.is("withdraw(1)", bus.withdraw(1), 2);
        Due.is("master(1, 5) with one left", bus.master(1, 5), 5);
        Due.is("withdraw(1)", bus.withdraw(1), 1);
        Due.is("master(1, 5) with none left", bus.master(1, 5), 0);
        bus.read(1, 1, 0);
        Due.is("master(1, 5) with a new one", bus.master(1, 5), 0);
        bus.pass(1);
        Due.is("master(1, 5)", bus.master(1, 5), 1);
        Due.is("undo()", bus.undo(), 3);
        Due.is("undo()", bus.undo(), 2);
        Due.is("undo()", bus.undo(), 1);
        Due.is("master(1, 5) of the restored row", bus.master(1, 5), 5);
    }

    // "Then the tick, 0 at first, becomes greater by 1."
    private static void tickByOne() {
        TagBus bus = new TagBus();
        Due.is("count(0)", bus.count(0), 0);
        bus.read(0, 0, 0);
        for (int tick = 1; tick <= 20; tick++) {
            bus.pass(1);
            Due.is("count(0)", bus.count(0), tick);
        }
        bus.pass(99);
        Due.is("count(0)", bus.count(0), 119);
    }
}
