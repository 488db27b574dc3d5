/** The boundaries that the Terms name for masters, targets and tags: a method for each sentence, which stands above it. */
public final class TermsEdgesTest {
    private static final int A = 1000;
    private static final int R = 2000;
    private static final int N = TagBus.NONE;

    public static void main(String[] args) {
        fourMasters();
        sixInARow();
        sharesFromOneToEight();
        twoTagsAtFirst();
        numbersFromZero();
        fourTargets();
        roomsFromOneToFour();
        twoPlacesAtFirst();
        delaysFromOneToNine();
        delayAsItIsThen();
        answersOfReadingAndWriting();
        inTheTargetUntilTheAnswerLeaves();
        tagsFromOneToEight();
        fourTagsAtFirst();
        lentUntilTheTripOfTheAnswer();
        lowestFreeTag();
        Due.end();
    }

    // "There are 4 masters, numbered from 0."
    private static void fourMasters() {
        TagBus bus = new TagBus();
        for (int master = 0; master < 4; master++) {
            Due.is("read by master " + master, bus.read(master, master, 0), master);
        }
        Due.is("read by master 4", bus.read(4, 0, 0), TagBus.UNKNOWN);
        Due.is("read by master -1", bus.read(-1, 0, 0), TagBus.UNKNOWN);
        Due.row("trips", Due.trips(bus, 4), 0, 1, 2, A);
        for (int master = 0; master < 4; master++) {
            Due.is("master of question " + master, bus.question(master, 0), master);
        }
    }

    // "A master has a row of at most 6 questions that were not sent yet"
    private static void sixInARow() {
        for (int master = 0; master < 4; master++) {
            TagBus bus = new TagBus();
            bus.setTarget(1, 0, 1);
            for (int i = 0; i < 6; i++) {
                Due.is("question " + i + " of the row", bus.read(master, 1, 3), i);
            }
            Due.is("a seventh one", bus.read(master, 1, 3), TagBus.FULL);
            Due.row("trips", Due.trips(bus, 1), 0);
            Due.is("one that was sent is no more in the row", bus.write(master, 1, 3, 0), 6);
            Due.is("a seventh one", bus.read(master, 1, 3), TagBus.FULL);
            Due.row("trips", Due.trips(bus, 1), R + 1);
            Due.is("one that was refused is in the row", bus.write(master, 1, 3, 0), TagBus.FULL);
            Due.is("withdraw(..)", bus.withdraw(master), 6);
            Due.is("one that was withdrawn is no more in the row", bus.read(master, 1, 3), 7);
            Due.is("a seventh one", bus.read(master, 1, 3), TagBus.FULL);
            Due.is("the row of another master", bus.read((master + 1) % 4, 1, 3), 8);
            for (int i = 0; i < 6; i++) {
                Due.is("row(.., " + i + ")", bus.row(master, i), i < 5 ? i + 1 : 7);
            }
            Due.is("row(.., 6)", bus.row(master, 6), N);
        }
    }

    /** Eight tags, and eight places in targets that keep what is in them for 12 ticks. */
    private static TagBus wide() {
        TagBus bus = new TagBus();
        bus.set(0, 8);
        for (int target = 0; target < 4; target++) {
            bus.setTarget(target, 1, 9);
        }
        return bus;
    }

    /** Puts eight questions into the row of a master in the ticks in which there is room; tells the trips until the tick 11. */
    private static int eightOf(TagBus bus, int master) {
        for (int i = 0; i < 6; i++) {
            bus.read(master, i % 4, 3);
        }
        int trips = bus.pass(2);
        bus.read(master, 2, 3);
        bus.read(master, 3, 3);
        return trips + bus.pass(9);
    }

    // "a share (how many tags it may hold at once, 1 to 8; 2 at first)"
    private static void sharesFromOneToEight() {
        for (int share = 1; share <= 8; share++) {
            TagBus bus = wide();
            bus.setShare(3, share);
            Due.is("trips with the share " + share, eightOf(bus, 3), share);
            Due.is("master(3, 2) with the share " + share, bus.master(3, 2), share);
            Due.is("count(5) with the share " + share, bus.count(5), 8 - share);
            Due.is("another one's share", bus.master(2, 1), 2);
            bus.read(2, 3, 3);
            // Tick 11: what is left of the tags is for the others.
            Due.row("trips with the share " + share, Due.trips(bus, 1), share < 8 ? bus.count(4) - 1 : N);
        }
    }

    private static void twoTagsAtFirst() {
        TagBus bus = wide();
        Due.is("trips", eightOf(bus, 0), 2);
        Due.is("master(0, 2)", bus.master(0, 2), 2);
        // Its first answer comes in the tick 12: it holds fewer tags than its share only then.
        Due.row("trips", Due.trips(bus, 4), N, A, A + 1, 2);
    }

    // "A question has a number (from 0, in the order in which questions come)"
    private static void numbersFromZero() {
        TagBus bus = new TagBus();
        Due.is("read(3, 0, 0)", bus.read(3, 0, 0), 0);
        Due.is("write(0, 0, 0, 0)", bus.write(0, 0, 0, 0), 1);
        Due.is("read(0, 0, 16) uses no number", bus.read(0, 0, 16), TagBus.BAD_VALUE);
        Due.type(bus, "2>0r0;1>0r0");
        Due.is("ask()", bus.ask(), 2);
        Due.is("row(2, 0)", bus.row(2, 0), 2);
        Due.is("row(1, 0)", bus.row(1, 0), 3);
        Due.is("withdraw(1)", bus.withdraw(1), 3);
        Due.is("the number of a withdrawn one is not given again", bus.read(1, 0, 0), 4);
        Due.type(bus, "2>0r0;1>0r");
        Due.is("ask() uses no number", bus.ask(), -110);
        Due.is("read(1, 0, 0)", bus.read(1, 0, 0), 5);
        Due.is("count(4)", bus.count(4), 6);
    }

    // "There are 4 targets, numbered from 0. A target has 16 cells (0 at first)"
    private static void fourTargets() {
        TagBus bus = new TagBus();
        int address = 15;
        for (int target = 0; target < 4; target++) {
            Due.is("cell 15 at first", bus.cell(target, address), 0);
            Due.is("write into target " + target, bus.write(target, target, address, 90 + target), target);
        }
        Due.is("write into target 4", bus.write(0, 4, address, 1), TagBus.UNKNOWN);
        Due.is("write into target -1", bus.write(0, -1, address, 1), TagBus.UNKNOWN);
        bus.pass(30);
        for (int target = 0; target < 4; target++) {
            Due.is("cell 15", bus.cell(target, address), 90 + target);
            Due.is("cell 14", bus.cell(target, 14), 0);
            Due.is("cell 0", bus.cell(target, 0), 0);
        }
        Due.is("cell 16", bus.cell(0, 16), TagBus.BAD_VALUE);
    }

    // "a room (1 to 4 questions; 2 at first)", and "if its target has as many questions in it as its room, or more"
    private static void roomsFromOneToFour() {
        for (int room = 1; room <= 4; room++) {
            TagBus bus = wide();
            bus.setTarget(2, 0, room);
            bus.setShare(1, 8);
            for (int i = 0; i <= room; i++) {
                bus.read(1, 2, 3);
            }
            for (int i = 0; i < room; i++) {
                Due.row("trip " + i + " with the room " + room, Due.trips(bus, 1), i);
                Due.is("target(2, 3)", bus.target(2, 3), i + 1);
            }
            Due.row("trip with the room " + room + " taken", Due.trips(bus, 1), R + room);
            Due.is("target(2, 3)", bus.target(2, 3), room);
            Due.is("count(8)", bus.count(8), 1);
        }
    }

    private static void twoPlacesAtFirst() {
        for (int target = 0; target < 4; target++) {
            TagBus bus = new TagBus();
            bus.setShare(1, 8);
            for (int i = 0; i < 3; i++) {
                bus.read(1, target, 3);
            }
            Due.row("trips", Due.trips(bus, 3), 0, 1, R + 2);
        }
    }

    // "a delay (1 to 9 ticks; 3 at first)", and "is done in the tick t + delay + address % 4"
    private static void delaysFromOneToNine() {
        for (int delay = 1; delay <= 9; delay++) {
            for (int address = 0; address < 16; address++) {
                TagBus bus = new TagBus();
                bus.setTarget(1, 1, delay);
                bus.write(0, 1, address, 9);
                bus.pass(1);
                int until = delay - 1 + address % 4;
                Due.is("pass(" + until + ")", until == 0 ? 0 : bus.pass(until), 0);
                String when = " with the delay " + delay + " at " + address;
                Due.is("not done in the tick before" + when, bus.question(0, 4), 1);
                Due.is("target(1, 4)" + when, bus.target(1, 4), 0);
                Due.is("the cell in the tick before" + when, bus.cell(1, address), 0);
                Due.is("answeredIn(0)" + when, bus.answeredIn(0), 1);
                // What is done in a tick can leave in the same one.
                Due.row("trips" + when, Due.trips(bus, 1), A);
                Due.is("question(0, 7)" + when, bus.question(0, 7), delay + address % 4);
                Due.is("the cell" + when, bus.cell(1, address), 9);
            }
        }
        TagBus bus = new TagBus();
        bus.read(0, 3, 4);
        Due.row("trips with the first delay", Due.trips(bus, 4), 0, N, N, A);
    }

    // "(the delay as it is then)", and of setTarget: "questions that are in it are done when they would have been"
    private static void delayAsItIsThen() {
        TagBus bus = new TagBus();
        bus.read(0, 0, 0);
        bus.read(1, 0, 0);
        bus.setTarget(0, 1, 5);
        bus.pass(1);
        bus.setTarget(0, 1, 1);
        // Question 0 came with the delay 5, question 1 comes with the delay 1, but behind it.
        Due.row("trips", Due.trips(bus, 2), 1, N);
        Due.is("question(1, 4)", bus.question(1, 4), 2);
        Due.is("question(0, 4)", bus.question(0, 4), 1);
        bus.setTarget(0, 1, 9);
        Due.row("trips", Due.trips(bus, 4), N, N, A, A + 1);
    }

    // "the answer of a reading one is the value of the cell then, that of a writing one the value that was in the cell before"
    private static void answersOfReadingAndWriting() {
        TagBus bus = wide();
        bus.setTarget(0, 0, 4);
        bus.setShare(0, 8);
        bus.setCell(0, 15, 99);
        bus.read(0, 0, 15);
        bus.write(0, 0, 15, 0);
        bus.write(0, 0, 15, 0);
        bus.write(0, 0, 15, 99);
        bus.pass(4);
        Due.is("target(0, 3)", bus.target(0, 3), 4);
        bus.pass(8);
        Due.is("cell(0, 15) until the tick 11", bus.cell(0, 15), 99);
        int[] cells = {99, 0, 0, 99};
        int[] answers = {99, 99, 0, 0};
        for (int i = 0; i < 4; i++) {
            Due.is("answer of " + i + " until it is done", bus.question(i, 6), N);
            bus.pass(1);
            Due.is("cell(0, 15) behind " + i, bus.cell(0, 15), cells[i]);
            Due.is("answer of " + i, bus.question(i, 6), answers[i]);
        }
    }

    // "It is in the target until its answer leaves."
    private static void inTheTargetUntilTheAnswerLeaves() {
        TagBus bus = new TagBus();
        bus.set(1, 1);
        bus.set(0, 8);
        bus.setShare(0, 8);
        bus.setTarget(0, 0, 1);
        bus.setTarget(0, 1, 1);
        Due.type(bus, "0>0r0;0>1r0;0>2r0;0>0r0");
        bus.ask();
        Due.row("trips", Due.trips(bus, 3), 0, 1, 2);
        Due.is("question 0 is done", bus.question(0, 4), 2);
        Due.is("target(0, 3)", bus.target(0, 3), 1);
        Due.is("target(0, 4)", bus.target(0, 4), 1);
        // Though it is done, it takes the only place.
        Due.row("trips", Due.trips(bus, 2), R + 3, A);
        Due.is("target(0, 3)", bus.target(0, 3), 0);
        Due.is("target(0, 4)", bus.target(0, 4), 0);
        // Master 0 may send again in the tick 3 + 1 + 2.
        Due.row("trips", Due.trips(bus, 3), A + 1, 3, A + 2);
    }

    // "There are some tags (1 to 8; 4 at first), numbered from 0."
    private static void tagsFromOneToEight() {
        for (int tags = 1; tags <= 8; tags++) {
            TagBus bus = wide();
            bus.setShare(0, 8);
            bus.set(0, tags);
            Due.is("trips with " + tags + " tags", eightOf(bus, 0), tags);
            Due.is("count(5) with " + tags + " tags", bus.count(5), 0);
            Due.is("tag(0)", bus.tag(0), 0);
            Due.is("tag(" + (tags - 1) + ")", bus.tag(tags - 1), tags - 1);
            Due.is("tag(" + tags + ")", bus.tag(tags), TagBus.UNKNOWN);
            bus.read(3, 3, 3);
            // No tag is free for another master either.
            Due.row("trips with " + tags + " tags", Due.trips(bus, 1), N);
        }
    }

    private static void fourTagsAtFirst() {
        TagBus bus = new TagBus();
        bus.setShare(0, 8);
        for (int target = 0; target < 4; target++) {
            bus.setTarget(target, 1, 9);
        }
        Due.is("trips", eightOf(bus, 0), 4);
        Due.is("tag(3)", bus.tag(3), 3);
        Due.is("tag(4)", bus.tag(4), TagBus.UNKNOWN);
    }

    // "A tag is free, or lent to a question from its trip on until the trip of its answer."
    private static void lentUntilTheTripOfTheAnswer() {
        TagBus bus = new TagBus();
        bus.set(0, 1);
        bus.read(0, 0, 0);
        bus.read(1, 1, 0);
        Due.is("tag(0) ahead of the trip", bus.tag(0), N);
        Due.row("trips", Due.trips(bus, 1), 0);
        for (int tick = 1; tick <= 3; tick++) {
            Due.is("tag(0) in the tick " + tick, bus.tag(0), 0);
            Due.is("question(0, 5) in the tick " + tick, bus.question(0, 5), 0);
            Due.row("trip in the tick " + tick, Due.trips(bus, 1), tick < 3 ? N : A);
        }
        Due.is("tag(0) behind the trip of the answer", bus.tag(0), N);
        Due.is("question(0, 5) behind the trip of the answer", bus.question(0, 5), N);
        Due.row("trip in the tick 4", Due.trips(bus, 1), 1);
        Due.is("tag(0)", bus.tag(0), 1);
    }

    // "When a question is sent, it gets the lowest free tag."
    private static void lowestFreeTag() {
        TagBus bus = wide();
        bus.setShare(0, 8);
        for (int i = 0; i < 4; i++) {
            bus.setTarget(i, 1, 4 - i);
            bus.setTarget(i, 0, 4);
            bus.read(0, i, 3);
        }
        bus.pass(4);
        for (int tag = 0; tag < 4; tag++) {
            Due.is("tag(" + tag + ")", bus.tag(tag), tag);
        }
        // All are done in the tick 7, and go in it and in those behind it: first that of target 0.
        bus.setTarget(3, 1, 9);
        Due.row("trips", Due.trips(bus, 5), N, N, N, A, A + 1);
        bus.read(0, 3, 3);
        bus.read(0, 3, 3);
        bus.read(0, 3, 3);
        bus.set(1, 1);
        Due.row("trips", Due.trips(bus, 3), 4, 5, 6);
        int[] lent = {4, 5, 2, 3, 6, N, N, N};
        for (int tag = 0; tag < 8; tag++) {
            Due.is("tag(" + tag + ")", bus.tag(tag), lent[tag]);
        }
    }
}
