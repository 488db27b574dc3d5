/** Promise 10: what a tick does. */
public final class TicksTest {
    private static final int A = 1000;
    private static final int R = 2000;
    private static final int N = TagBus.NONE;

    public static void main(String[] args) {
        wrongTicks();
        latestTick();
        oneQuestion();
        doneIsByDelayAndAddress();
        cellsAreUsedInTheOrderOfComing();
        answersInOrder();
        answersInAnyOrder();
        answersOfOneTick();
        answerDoneFirstGoesFirst();
        turnsOfTargets();
        turnsOfMasters();
        patience();
        longestWait();
        patienceNeedsAQuestionThatCanGo();
        shares();
        fewTags();
        lowestTag();
        refusals();
        refusalTakesTheTurn();
        roomMadeSmaller();
        questionsFirst();
        otherOneThanBefore();
        refusedTripIsALatestTrip();
        Due.end();
    }

    private static void wrongTicks() {
        TagBus bus = new TagBus();
        bus.read(0, 0, 0);
        String before = Due.everything(bus);
        for (int ticks : new int[] {0, -1, 100, Integer.MAX_VALUE, Integer.MIN_VALUE}) {
            Due.is("pass(" + ticks + ")", bus.pass(ticks), TagBus.BAD_VALUE);
        }
        Due.same("wrong ticks", Due.everything(bus), before);
        Due.is("pass(99)", bus.pass(99), 2);
        Due.is("count(0)", bus.count(0), 99);
        Due.is("count(11)", bus.count(11), 2);
    }

    private static void latestTick() {
        TagBus bus = new TagBus();
        for (int i = 0; i < 100; i++) {
            Due.is("pass(99)", bus.pass(99), 0);
        }
        Due.is("pass(98)", bus.pass(98), 0);
        Due.is("count(0)", bus.count(0), 9998);
        Due.is("pass(2)", bus.pass(2), TagBus.FULL);
        Due.is("pass(100)", bus.pass(100), TagBus.BAD_VALUE);
        Due.is("pass(99)", bus.pass(99), TagBus.FULL);
        Due.is("count(0)", bus.count(0), 9998);
        Due.is("pass(1)", bus.pass(1), 0);
        Due.is("count(0)", bus.count(0), 9999);
        Due.is("count(9)", bus.count(9), 9999);
        Due.is("pass(1)", bus.pass(1), TagBus.FULL);
        Due.is("undo()", bus.undo(), 3);
        Due.is("count(0)", bus.count(0), 9998);
    }

    private static void oneQuestion() {
        TagBus bus = new TagBus();
        bus.pass(7);
        bus.write(2, 1, 5, 33);
        Due.is("pass(1)", bus.pass(1), 1);
        int[] sent = {2, 1, 5, 33, 1, 0, N, N, 0};
        for (int what = 0; what < sent.length; what++) {
            Due.is("question(0, " + what + ") when sent", bus.question(0, what), sent[what]);
        }
        int[] ofMaster = {0, 2, 1, 0, 0, 0, 0, N, 0};
        for (int what = 0; what < ofMaster.length; what++) {
            Due.is("master(2, " + what + ") when sent", bus.master(2, what), ofMaster[what]);
        }
        Due.is("tag(0)", bus.tag(0), 0);
        Due.is("target(1, 3)", bus.target(1, 3), 1);
        Due.is("target(1, 4)", bus.target(1, 4), 0);
        Due.is("count(5)", bus.count(5), 3);
        Due.is("pass(3)", bus.pass(3), 0);
        Due.is("cell(1, 5)", bus.cell(1, 5), 0);
        Due.is("question(0, 4)", bus.question(0, 4), 1);
        bus.setCell(1, 5, 21);
        Due.is("pass(1)", bus.pass(1), 1);
        Due.is("cell(1, 5)", bus.cell(1, 5), 33);
        int[] answered = {2, 1, 5, 33, 3, N, 21, 4, 0};
        for (int what = 0; what < answered.length; what++) {
            Due.is("question(0, " + what + ") when answered", bus.question(0, what), answered[what]);
        }
        int[] behind = {0, 2, 0, 0, 0, 0, 1, 4, 0};
        for (int what = 0; what < behind.length; what++) {
            Due.is("master(2, " + what + ") when answered", bus.master(2, what), behind[what]);
        }
        int[] counts = {12, 4, 0, 12, 1, 4, 1, 1, 0, 10, 0, 4, 0};
        for (int what = 0; what < counts.length; what++) {
            Due.is("count(" + what + ")", bus.count(what), counts[what]);
        }
        Due.is("tag(0)", bus.tag(0), N);
        Due.is("target(1, 3)", bus.target(1, 3), 0);
    }

    private static void doneIsByDelayAndAddress() {
        for (int delay = 1; delay <= 9; delay++) {
            for (int address = 0; address < 16; address++) {
                TagBus bus = new TagBus();
                bus.setTarget(3, 1, delay);
                bus.setCell(3, address, 5);
                bus.read(0, 3, address);
                bus.pass(1);
                // Those that are in it are done when they would have been.
                bus.setTarget(3, 1, delay == 9 ? 1 : 9);
                bus.pass(20);
                Due.is("question(0, 7)", bus.question(0, 7), delay + address % 4);
                Due.is("question(0, 6)", bus.question(0, 6), 5);
            }
        }
        TagBus bus = new TagBus();
        bus.read(0, 3, 2);
        bus.setTarget(3, 1, 7);
        bus.pass(20);
        Due.is("the delay is that of the coming", bus.question(0, 7), 9);
    }

    private static void cellsAreUsedInTheOrderOfComing() {
        TagBus bus = new TagBus();
        bus.setCell(2, 4, 1);
        bus.write(0, 2, 4, 7);
        bus.write(0, 2, 4, 8);
        bus.pass(1);
        bus.setTarget(2, 1, 2);
        bus.pass(1);
        Due.is("cell(2, 4)", bus.cell(2, 4), 1);
        bus.pass(2);
        Due.is("question(0, 6)", bus.question(0, 6), 1);
        Due.is("question(1, 6)", bus.question(1, 6), 7);
        Due.is("question(1, 4)", bus.question(1, 4), 2);
        Due.is("cell(2, 4)", bus.cell(2, 4), 8);
    }

    private static void answersInOrder() {
        TagBus bus = new TagBus();
        bus.read(0, 0, 3);
        bus.read(0, 0, 0);
        // Question 0 is done in tick 6, question 1 in tick 4.
        Due.row("trips", Due.trips(bus, 9), 0, 1, N, N, N, N, A, A + 1, N);
        Due.is("count(10)", bus.count(10), 0);
        Due.is("count(9)", bus.count(9), 5);
    }

    private static void answersInAnyOrder() {
        TagBus bus = new TagBus();
        bus.setTarget(0, 2, 1);
        bus.read(0, 0, 3);
        bus.read(0, 0, 0);
        Due.row("trips", Due.trips(bus, 4), 0, 1, N, N);
        Due.is("target(0, 5)", bus.target(0, 5), N);
        Due.row("trips", Due.trips(bus, 5), A + 1, N, A, N, N);
        Due.is("count(10)", bus.count(10), 1);
    }

    private static void answersOfOneTick() {
        TagBus bus = new TagBus();
        bus.setTarget(0, 2, 1);
        bus.read(0, 0, 1);
        bus.read(0, 0, 0);
        Due.row("trips", Due.trips(bus, 7), 0, 1, N, N, A, A + 1, N);
        Due.is("count(10)", bus.count(10), 0);
    }

    private static TagBus busy(int order) {
        TagBus bus = new TagBus();
        bus.set(0, 8);
        bus.set(1, 1);
        bus.setShare(0, 8);
        bus.setTarget(0, 2, order);
        bus.setTarget(0, 0, 4);
        Due.type(bus, "0>0r3;0>0r0;0>1r0;0>1r0;0>2r0;0>2r0");
        bus.ask();
        bus.pass(6);
        return bus;
    }

    private static void answerDoneFirstGoesFirst() {
        TagBus bus = busy(1);
        Due.is("question(0, 4)", bus.question(0, 4), 1);
        Due.is("question(1, 4)", bus.question(1, 4), 2);
        Due.is("question(1, 5)", bus.question(1, 5), 1);
        Due.is("question(1, 6)", bus.question(1, 6), 0);
        Due.is("question(1, 7)", bus.question(1, 7), N);
        Due.is("target(0, 4)", bus.target(0, 4), 1);
        Due.is("target(0, 5)", bus.target(0, 5), 1);
        bus.read(0, 3, 0);
        bus.pass(1);
        Due.is("target(0, 3)", bus.target(0, 3), 2);
        Due.is("target(0, 4)", bus.target(0, 4), 2);
        Due.is("target(0, 5)", bus.target(0, 5), 1);
        bus.setTarget(0, 2, 0);
        Due.is("target(0, 5)", bus.target(0, 5), 0);
        bus.setTarget(0, 2, 1);
        Due.row("trips", Due.trips(bus, 4), A + 1, A + 2, A + 4, A + 6);
        Due.row("trips", Due.trips(bus, 4), A, A + 3, A + 5, N);
        Due.is("count(10)", bus.count(10), 1);
        TagBus inOrder = busy(0);
        Due.is("target(0, 4)", inOrder.target(0, 4), 1);
        Due.is("target(0, 5)", inOrder.target(0, 5), N);
        Due.row("trips", Due.trips(inOrder, 5), A, A + 2, A + 4, A + 1, A + 3);
        Due.is("count(10)", inOrder.count(10), 0);
    }

    private static void turnsOfTargets() {
        TagBus bus = new TagBus();
        bus.read(0, 0, 1);
        bus.read(1, 1, 0);
        // Both are done in tick 4; target 0 has the first turn.
        Due.row("trips", Due.trips(bus, 6), 0, 1, N, N, A, A + 1);
        bus.read(0, 0, 1);
        bus.read(1, 1, 0);
        // The turn is that of target 2 now (2, 3, 0, 1), and of master 2.
        Due.row("trips", Due.trips(bus, 6), 2, 3, N, N, A + 2, A + 3);
        bus.setShare(0, 8);
        bus.setTarget(3, 1, 1);
        bus.read(0, 0, 1);
        bus.read(0, 1, 0);
        bus.read(0, 3, 0);
        // They are done in the ticks 16, 16 and 15; behind target 3 comes target 0.
        Due.row("trips", Due.trips(bus, 7), 4, 5, 6, A + 6, A + 4, A + 5, N);
        bus.read(0, 0, 0);
        Due.row("trips", Due.trips(bus, 4), 7, N, N, A + 7);
        bus.read(0, 0, 1);
        bus.read(0, 1, 0);
        // Target 0 had the latest one: target 1 goes ahead of it.
        Due.row("trips", Due.trips(bus, 6), 8, 9, N, N, A + 9, A + 8);
    }

    private static void turnsOfMasters() {
        TagBus bus = new TagBus();
        bus.set(0, 8);
        bus.set(2, 50);
        for (int i = 0; i < 4; i++) {
            bus.setTarget(i, 1, 9);
        }
        Due.type(bus, "0>0r0;0>0r0;1>1r0;3>2r0;3>2r0");
        bus.ask();
        Due.row("trips", Due.trips(bus, 4), 0, 2, 3, 1);
        bus.read(0, 3, 0);
        bus.read(2, 3, 0);
        Due.row("trips", Due.trips(bus, 2), 6, 4);
    }

    /** A bus with a single tag, lent to a question of master 2 until the tick 3; the turn is that of master 3. */
    private static TagBus lent() {
        TagBus bus = new TagBus();
        bus.set(0, 1);
        bus.read(2, 0, 0);
        bus.pass(1);
        return bus;
    }

    private static void patience() {
        TagBus bus = lent();
        Due.type(bus, "0>1r0;1>1r0;3>1r0");
        bus.ask();
        // In tick 4 each of the three has waited for 3 ticks.
        bus.set(2, 4);
        Due.row("trips", Due.trips(bus, 3), N, N, A);
        Due.is("master(0, 5)", bus.master(0, 5), 3);
        Due.is("master(0, 8)", bus.master(0, 8), 0);
        Due.row("trips", Due.trips(bus, 1), 3);
        bus.undo();
        bus.set(2, 3);
        Due.is("master(0, 8)", bus.master(0, 8), 1);
        Due.is("master(1, 8)", bus.master(1, 8), 1);
        Due.is("master(2, 8)", bus.master(2, 8), 0);
        Due.row("trips", Due.trips(bus, 1), 1);
        Due.is("master(0, 5)", bus.master(0, 5), 0);
        Due.is("master(3, 5)", bus.master(3, 5), 4);
        // It is the turn of master 1 now, not of master 3.
        bus.set(2, 50);
        Due.row("trips", Due.trips(bus, 4), N, N, A + 1, 2);
    }

    private static void longestWait() {
        TagBus bus = lent();
        bus.read(1, 1, 0);
        bus.read(3, 1, 0);
        bus.pass(1);
        bus.read(0, 1, 0);
        bus.set(2, 1);
        Due.row("trips", Due.trips(bus, 3), N, A, 1);
        Due.row("trips", Due.trips(bus, 4), N, N, A + 1, 2);
    }

    private static void patienceNeedsAQuestionThatCanGo() {
        TagBus bus = new TagBus();
        bus.setShare(0, 1);
        bus.set(2, 1);
        bus.read(0, 0, 3);
        bus.read(0, 0, 3);
        bus.pass(2);
        bus.read(1, 0, 0);
        Due.is("master(0, 8)", bus.master(0, 8), 1);
        Due.is("master(1, 8)", bus.master(1, 8), 0);
        Due.row("trips", Due.trips(bus, 1), 2);
        Due.is("master(0, 5)", bus.master(0, 5), 2);
    }

    private static void shares() {
        TagBus bus = new TagBus();
        bus.read(0, 0, 0);
        bus.read(0, 1, 0);
        bus.read(0, 2, 0);
        Due.row("trips", Due.trips(bus, 3), 0, 1, N);
        Due.is("master(0, 2)", bus.master(0, 2), 2);
        Due.is("master(0, 5)", bus.master(0, 5), 1);
        Due.row("trips", Due.trips(bus, 3), A, A + 1, 2);
        Due.is("master(0, 2)", bus.master(0, 2), 1);
        Due.is("question(2, 7)", bus.question(2, 7), N);
        Due.row("trips", Due.trips(bus, 3), N, N, A + 2);
        Due.is("question(2, 7)", bus.question(2, 7), 8);
        Due.is("master(0, 6)", bus.master(0, 6), 3);
        Due.is("master(0, 7)", bus.master(0, 7), 8);
        // A share that is made less than what the master holds.
        bus.read(0, 0, 0);
        bus.read(0, 1, 0);
        bus.read(0, 2, 0);
        bus.pass(2);
        bus.setShare(0, 1);
        Due.row("trips", Due.trips(bus, 4), N, A + 3, A + 4, 5);
        Due.is("master(0, 7)", bus.master(0, 7), 8);
    }

    private static void fewTags() {
        TagBus bus = new TagBus();
        bus.set(0, 2);
        bus.setShare(0, 8);
        bus.read(0, 0, 0);
        bus.read(0, 1, 0);
        bus.read(0, 2, 0);
        bus.read(1, 3, 0);
        Due.row("trips", Due.trips(bus, 7), 0, 3, N, A, A + 3, 1, 2);
        Due.is("tag(0)", bus.tag(0), 1);
        Due.is("tag(1)", bus.tag(1), 2);
        Due.is("count(5)", bus.count(5), 0);
    }

    private static void lowestTag() {
        TagBus bus = new TagBus();
        bus.setShare(0, 8);
        bus.setTarget(0, 1, 9);
        bus.setTarget(2, 1, 9);
        Due.type(bus, "0>0r0;0>1r0;0>2r0");
        bus.ask();
        bus.pass(3);
        for (int tag = 0; tag < 4; tag++) {
            Due.is("tag(" + tag + ")", bus.tag(tag), tag < 3 ? tag : N);
            Due.is("question(" + tag + ", 5)", bus.question(tag, 5), tag < 3 ? tag : TagBus.UNKNOWN);
        }
        bus.pass(2);
        Due.is("tag(1)", bus.tag(1), N);
        bus.read(0, 1, 0);
        bus.read(0, 1, 0);
        bus.pass(2);
        Due.is("tag(1)", bus.tag(1), 3);
        Due.is("tag(3)", bus.tag(3), 4);
        Due.is("question(3, 5)", bus.question(3, 5), 1);
        Due.is("question(4, 5)", bus.question(4, 5), 3);
    }

    /** Master 0 keeps target 0 full: it sends in the ticks 0, 13, 26 and 39, and is answered 12 ticks later. */
    private static void refusals() {
        TagBus bus = new TagBus();
        bus.setTarget(0, 0, 1);
        bus.setTarget(0, 1, 9);
        bus.setShare(0, 1);
        Due.type(bus, "0>0r3;0>0r3;0>0r3;0>0r3;0>0r3;1>0r3");
        bus.ask();
        Due.row("trips", Due.trips(bus, 5), 0, R + 5, N, N, R + 5);
        Due.is("master(1, 3)", bus.master(1, 3), 2);
        Due.is("master(1, 4)", bus.master(1, 4), 4);
        Due.is("master(1, 5)", bus.master(1, 5), 5);
        Due.is("question(5, 4)", bus.question(5, 4), 0);
        Due.is("question(5, 5)", bus.question(5, 5), N);
        Due.is("question(5, 8)", bus.question(5, 8), 2);
        Due.is("row(1, 0)", bus.row(1, 0), 5);
        Due.is("count(5)", bus.count(5), 3);
        bus.pass(3);
        Due.is("master(1, 4)", bus.master(1, 4), 1);
        Due.row("trips", Due.trips(bus, 2), N, R + 5);
        Due.is("master(1, 3)", bus.master(1, 3), 3);
        Due.is("master(1, 4)", bus.master(1, 4), 8);
        Due.row("trips", Due.trips(bus, 5), N, N, A, 1, N);
        bus.pass(3);
        Due.is("master(1, 4)", bus.master(1, 4), 0);
        Due.row("trips", Due.trips(bus, 1), R + 5);
        Due.is("master(1, 3)", bus.master(1, 3), 4);
        Due.is("master(1, 4)", bus.master(1, 4), 16);
        bus.pass(16);
        Due.is("count(0)", bus.count(0), 35);
        Due.row("trips", Due.trips(bus, 1), R + 5);
        Due.is("master(1, 3)", bus.master(1, 3), 5);
        Due.is("master(1, 4) is not more than 16", bus.master(1, 4), 16);
        Due.is("master(1, 5)", bus.master(1, 5), 36);
        bus.pass(15);
        Due.row("trips", Due.trips(bus, 2), A + 3, 5);
        Due.is("master(1, 3) behind a trip", bus.master(1, 3), 0);
        Due.is("master(1, 4) behind a trip", bus.master(1, 4), 0);
        Due.is("master(1, 5) behind a trip", bus.master(1, 5), 0);
        Due.is("question(5, 8)", bus.question(5, 8), 5);
        Due.is("count(7)", bus.count(7), 5);
        Due.is("count(8)", bus.count(8), 5);
        // Now master 0 is refused for the first time, and master 1 once more: its count begins anew.
        bus.read(1, 0, 3);
        Due.row("trips", Due.trips(bus, 2), R + 4, R + 6);
        Due.is("master(1, 3)", bus.master(1, 3), 1);
        Due.is("master(1, 4)", bus.master(1, 4), 2);
        Due.is("question(6, 8)", bus.question(6, 8), 1);
    }

    private static void refusalTakesTheTurn() {
        TagBus bus = new TagBus();
        bus.setTarget(0, 0, 1);
        bus.setTarget(0, 1, 9);
        bus.read(0, 0, 3);
        bus.pass(1);
        bus.set(2, 50);
        Due.type(bus, "1>0r0;2>1r0;0>1r0");
        bus.ask();
        // The turn is that of master 1; its refusal gives it to master 2.
        Due.row("trips", Due.trips(bus, 3), R + 1, 2, 3);
        // A refusal lends no tag, and a master that is refused has waited.
        Due.is("master(1, 2)", bus.master(1, 2), 0);
        Due.is("master(1, 5)", bus.master(1, 5), 3);
        // It may not send now, though it is the one that waited longest.
        Due.is("withdraw(1)", bus.withdraw(1), 1);
        Due.is("question(1, 8)", bus.question(1, 8), 1);
        bus.read(1, 2, 0);
        Due.is("master(1, 4)", bus.master(1, 4), 0);
        Due.row("trips", Due.trips(bus, 1), 4);
    }

    private static void roomMadeSmaller() {
        TagBus bus = new TagBus();
        bus.setTarget(0, 0, 4);
        bus.setTarget(0, 1, 9);
        bus.setShare(0, 8);
        bus.set(0, 8);
        Due.type(bus, "0>0r0;0>0r0;0>0r0;0>0r0;0>0r0");
        bus.ask();
        Due.row("trips", Due.trips(bus, 5), 0, 1, 2, 3, R + 4);
        bus.setTarget(0, 0, 1);
        Due.is("target(0, 3)", bus.target(0, 3), 4);
        Due.row("trips", Due.trips(bus, 6), N, N, R + 4, N, A, A + 1);
        // Two are in it, and there is room for one.
        Due.is("target(0, 3)", bus.target(0, 3), 2);
        Due.row("trips", Due.trips(bus, 2), A + 2, A + 3);
        Due.row("trips", Due.trips(bus, 1), 4);
    }

    private static void questionsFirst() {
        TagBus bus = new TagBus();
        bus.set(1, 1);
        bus.set(0, 8);
        bus.setShare(0, 8);
        Due.type(bus, "0>0r0;0>1r0;0>2r0;0>3r0;0>0r0");
        bus.ask();
        Due.row("trips", Due.trips(bus, 7), 0, 1, 2, 3, 4, A, A + 1);
        TagBus other = new TagBus();
        other.set(0, 8);
        other.setShare(0, 8);
        Due.type(other, "0>0r0;0>1r0;0>2r0;0>3r0;0>0r0");
        other.ask();
        Due.row("trips", Due.trips(other, 7), 0, 1, 2, A, A + 1, A + 2, 3);
    }

    private static void otherOneThanBefore() {
        TagBus bus = new TagBus();
        bus.set(1, 2);
        bus.set(0, 8);
        bus.setShare(0, 8);
        bus.setTarget(0, 0, 4);
        Due.type(bus, "0>0r0;0>0r0;0>0r0;0>0r0;0>0r0;0>0r0");
        bus.ask();
        // In the tick 3 question 0 is done.
        Due.row("trips", Due.trips(bus, 8), 0, 1, 2, A, 3, A + 1, 4, A + 2);
        Due.row("trips", Due.trips(bus, 5), 5, A + 3, A + 4, A + 5, N);
        // A tick without a trip does not count: the latest one is that of an answer.
        bus.read(0, 1, 0);
        bus.pass(5);
        bus.read(0, 1, 0);
        Due.row("trips", Due.trips(bus, 1), 7);
    }

    private static void refusedTripIsALatestTrip() {
        TagBus bus = new TagBus();
        bus.set(1, 2);
        bus.setTarget(1, 0, 1);
        bus.setTarget(1, 1, 9);
        bus.read(2, 1, 0);
        bus.pass(1);
        bus.read(0, 0, 0);
        bus.read(0, 0, 0);
        Due.row("trips", Due.trips(bus, 4), 1, 2, N, A + 1);
        bus.read(1, 1, 0);
        bus.read(3, 2, 0);
        Due.row("trips", Due.trips(bus, 3), R + 3, A + 2, 4);
    }
}
