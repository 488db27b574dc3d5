/** The boundaries that the promises 2 to 15 name, where the call is not refused: the least, the most, empty and full. */
public final class PromisesEdgesTest {
    private static final int A = 1000;
    private static final int R = 2000;
    private static final int N = TagBus.NONE;

    public static void main(String[] args) {
        leastAndMostSettings();
        tagsThatThereWouldNotBe();
        moreTagsAreFree();
        shareBelowWhatItHolds();
        roomBelowWhatIsIn();
        orderOfWhatIsIn();
        cellWithoutTheBus();
        lastRoomInARow();
        lastOfTwoHundred();
        lastOfTwoHundredByText();
        fewestAndMostOfAText();
        withdrawsTheLast();
        withdrawsARefusedOne();
        fewestAndMostTicks();
        latestTick();
        refusedTripsAreTrips();
        sixtyCharacters();
        emptiedText();
        fiveStates();
        eachActIsOneState();
        oneSnapshot();
        restoreIsAlwaysAnAct();
        snapshotOfAnEarlierTick();
        Due.end();
    }

    // Promise 2
    private static void leastAndMostSettings() {
        int[] least = {1, 0, 1};
        int[] most = {8, 2, 50};
        int[] first = {4, 0, 12};
        for (int what = 0; what < 3; what++) {
            TagBus bus = new TagBus();
            String call = "set(" + what + ", ..)";
            Due.is(call, bus.set(what, most[what]), first[what]);
            Due.is("the most", bus.count(1 + what), most[what]);
            Due.is(call, bus.set(what, least[what]), most[what]);
            Due.is("the least", bus.count(1 + what), least[what]);
            Due.is(call, bus.set(what, least[what]), N);
            Due.is("count(11)", bus.count(11), 2);
        }
    }

    // Promise 2: "NOT_POSSIBLE if what is 0, and a tag is lent that there would not be"
    private static void tagsThatThereWouldNotBe() {
        for (int lent = 1; lent <= 7; lent++) {
            TagBus bus = new TagBus();
            bus.set(0, 8);
            for (int i = 0; i < lent; i++) {
                bus.setTarget(i / 2, 1, 9);
                bus.read(i / 2, i / 2, 3);
            }
            Due.is("pass(" + lent + ")", bus.pass(lent), lent);
            for (int tags = 1; tags < lent; tags++) {
                Due.is("set(0, " + tags + ") with " + lent + " lent", bus.set(0, tags), TagBus.NOT_POSSIBLE);
            }
            Due.is("set(1, 1) with " + lent + " lent", bus.set(1, 1), 0);
            Due.is("set(2, 1) with " + lent + " lent", bus.set(2, 1), 12);
            Due.is("set(0, " + lent + ") with " + lent + " lent", bus.set(0, lent), 8);
            Due.is("count(5)", bus.count(5), 0);
            Due.is("the tag of tag(" + (lent - 1) + ")", bus.question(bus.tag(lent - 1), 5), lent - 1);
            Due.is("tag(" + lent + ")", bus.tag(lent), TagBus.UNKNOWN);
        }
        TagBus bus = new TagBus();
        bus.read(0, 0, 0);
        bus.read(0, 1, 3);
        bus.pass(4);
        // Tag 0 is free again, and tag 1 is lent: not how many are lent counts, but which.
        Due.is("count(5)", bus.count(5), 3);
        Due.is("set(0, 1)", bus.set(0, 1), TagBus.NOT_POSSIBLE);
        Due.is("set(0, 2)", bus.set(0, 2), 4);
    }

    private static void moreTagsAreFree() {
        TagBus bus = new TagBus();
        bus.set(0, 1);
        bus.read(0, 0, 3);
        bus.read(1, 1, 3);
        Due.row("trips with one tag", Due.trips(bus, 2), 0, N);
        bus.set(0, 2);
        Due.is("tag(1)", bus.tag(1), N);
        Due.row("trips with one more", Due.trips(bus, 1), 1);
        Due.is("tag(1)", bus.tag(1), 1);
    }

    // Promise 3: a share that is less than what the master holds takes no tag away
    private static void shareBelowWhatItHolds() {
        TagBus bus = new TagBus();
        bus.read(0, 0, 3);
        bus.read(0, 1, 3);
        bus.pass(2);
        Due.is("setShare(0, 1)", bus.setShare(0, 1), 2);
        Due.is("master(0, 1)", bus.master(0, 1), 1);
        Due.is("master(0, 2)", bus.master(0, 2), 2);
        Due.row("trips", Due.trips(bus, 6), N, N, N, N, A, A + 1);
    }

    // Promise 4: a room that is less than what is in the target
    private static void roomBelowWhatIsIn() {
        TagBus bus = new TagBus();
        bus.read(0, 0, 3);
        bus.read(0, 0, 3);
        bus.pass(2);
        Due.is("setTarget(0, 0, 1)", bus.setTarget(0, 0, 1), 2);
        Due.is("target(0, 0)", bus.target(0, 0), 1);
        Due.is("target(0, 3)", bus.target(0, 3), 2);
        Due.row("trips", Due.trips(bus, 6), N, N, N, N, A, A + 1);
    }

    // Promise 4: the order is that of what is in the target, too
    private static void orderOfWhatIsIn() {
        TagBus bus = new TagBus();
        bus.read(0, 0, 3);
        bus.read(0, 0, 0);
        Due.row("trips", Due.trips(bus, 5), 0, 1, N, N, N);
        Due.is("target(0, 5)", bus.target(0, 5), N);
        Due.is("setTarget(0, 2, 1)", bus.setTarget(0, 2, 1), 0);
        Due.is("target(0, 5)", bus.target(0, 5), 1);
        Due.row("trips", Due.trips(bus, 2), A + 1, A);
    }

    // Promise 5: "Sets a cell of a target, without the bus."
    private static void cellWithoutTheBus() {
        TagBus bus = new TagBus();
        bus.read(0, 0, 15);
        bus.write(1, 0, 15, 7);
        bus.pass(2);
        Due.is("setCell(0, 15, 99)", bus.setCell(0, 15, 99), 0);
        Due.is("count(0)", bus.count(0), 2);
        Due.is("count(7)", bus.count(7), 2);
        bus.pass(6);
        Due.is("question(0, 6)", bus.question(0, 6), 99);
        Due.is("question(1, 6)", bus.question(1, 6), 99);
        Due.is("setCell(0, 15, 0)", bus.setCell(0, 15, 0), 7);
        Due.is("cell(0, 15)", bus.cell(0, 15), 0);
    }

    // Promises 6 and 7: "FULL if the row has 6 questions"
    private static void lastRoomInARow() {
        for (int master = 0; master < 4; master++) {
            TagBus bus = new TagBus();
            for (int i = 0; i < 6; i++) {
                int number = i % 2 == 0 ? bus.read(master, 0, 0) : bus.write(master, 0, 0, 0);
                Due.is("question " + i, number, i);
                Due.is("master(.., 0)", bus.master(master, 0), i + 1);
            }
            Due.is("read", bus.read(master, 0, 0), TagBus.FULL);
            Due.is("write", bus.write(master, 0, 0, 0), TagBus.FULL);
            Due.is("master(.., 0)", bus.master(master, 0), 6);
            Due.is("count(4)", bus.count(4), 6);
        }
    }

    /** There have been so many questions, and all were withdrawn. */
    private static TagBus withdrawn(int questions) {
        TagBus bus = new TagBus();
        for (int i = 0; i < questions; i++) {
            bus.read(i % 4, 0, 0);
            if (i % 4 == 3 || i == questions - 1) {
                for (int master = 0; master <= i % 4; master++) {
                    bus.withdraw(master);
                }
            }
        }
        Due.is("count(4)", bus.count(4), questions);
        return bus;
    }

    // Promises 6 and 7: "or there have been 200"
    private static void lastOfTwoHundred() {
        TagBus bus = withdrawn(198);
        Due.is("read is question 198", bus.read(0, 0, 0), 198);
        Due.is("write is question 199", bus.write(1, 0, 0, 0), 199);
        Due.is("question(199, 4)", bus.question(199, 4), 0);
        Due.is("read", bus.read(2, 0, 0), TagBus.FULL);
        Due.is("write", bus.write(3, 0, 0, 0), TagBus.FULL);
        Due.is("withdraw(1) makes no room", bus.withdraw(1), 199);
        Due.is("read", bus.read(2, 0, 0), TagBus.FULL);
        Due.is("question(199, 4)", bus.question(199, 4), 4);
        Due.is("question(200, 4)", bus.question(200, 4), TagBus.UNKNOWN);
        Due.is("pass(10)", bus.pass(10), 2);
        Due.is("an answered one makes no room", bus.write(2, 0, 0, 0), TagBus.FULL);
        Due.is("count(4)", bus.count(4), 200);
    }

    // Promise 8: "or there would have been more than 200"
    private static void lastOfTwoHundredByText() {
        TagBus bus = withdrawn(198);
        Due.type(bus, "0>0r0;1>0r0;2>0r0");
        Due.is("ask() to 201", bus.ask(), TagBus.FULL);
        Due.is("count(4)", bus.count(4), 198);
        Due.type(bus, "0>0r0;1>0r0");
        Due.is("ask() to 200", bus.ask(), 2);
        Due.is("row(1, 0)", bus.row(1, 0), 199);
        Due.is("ask() behind 200", bus.ask(), TagBus.FULL);
        bus.type(';');
        Due.is("ask() of a fault behind 200", bus.ask(), -112);
    }

    // Promise 8: "Returns how many there are", "FULL if any row would have more than 6"
    private static void fewestAndMostOfAText() {
        TagBus bus = new TagBus();
        Due.type(bus, "3>3r9");
        Due.is("ask() of one", bus.ask(), 1);
        Due.type(bus, "0>0r0;1>0r0;2>0r0;3>0r0;0>0r0;1>0r0;2>0r0;3>0r0;0>0r0;1>0r0");
        Due.is("ask() of ten", bus.ask(), 10);
        Due.is("count(4)", bus.count(4), 11);
        Due.is("count(11)", bus.count(11), 2);
        for (int master = 0; master < 4; master++) {
            Due.is("master(" + master + ", 0)", bus.master(master, 0), master == 2 ? 2 : 3);
            Due.is("row(" + master + ", 1)", bus.row(master, 1), master == 3 ? 4 : 5 + master);
        }
        Due.type(bus, "3>0r0;3>0r0;3>0r0;3>0r0");
        Due.is("ask() to seven in a row", bus.ask(), TagBus.FULL);
        Due.type(bus, "3>0r0;3>0r0;3>0r0");
        Due.is("ask() to six in a row", bus.ask(), 3);
        Due.is("row(3, 5)", bus.row(3, 5), 13);
        Due.type(bus, "0>0r0;1>0r0;2>0r0;3>0r0");
        Due.is("ask() with one full row", bus.ask(), TagBus.FULL);
        Due.is("master(0, 0)", bus.master(0, 0), 3);
        Due.type(bus, "0>0r0;1>0r0;2>0r0");
        Due.is("ask() for the other rows", bus.ask(), 3);
    }

    // Promise 9: "Takes the last question of the row of a master away."
    private static void withdrawsTheLast() {
        for (int master = 0; master < 4; master++) {
            TagBus bus = new TagBus();
            for (int i = 0; i < 6; i++) {
                bus.read(master, 0, 0);
            }
            for (int last = 5; last >= 0; last--) {
                Due.is("withdraw(" + master + ")", bus.withdraw(master), last);
                Due.is("question(" + last + ", 4)", bus.question(last, 4), 4);
                Due.is("master(.., 0)", bus.master(master, 0), last);
                Due.is("row(.., last)", bus.row(master, last), N);
                Due.is("row(.., 0)", bus.row(master, 0), last > 0 ? 0 : N);
            }
            Due.is("withdraw(" + master + ")", bus.withdraw(master), N);
            Due.is("read", bus.read(master, 0, 0), 6);
            Due.is("the first one of two is not sent", bus.pass(1), 1);
            Due.is("question(6, 4)", bus.question(6, 4), 1);
            Due.is("withdraw(" + master + ") of a sent one", bus.withdraw(master), N);
        }
    }

    private static void withdrawsARefusedOne() {
        TagBus bus = new TagBus();
        bus.setTarget(0, 0, 1);
        bus.setTarget(0, 1, 9);
        bus.read(0, 0, 0);
        bus.read(1, 0, 0);
        Due.row("trips", Due.trips(bus, 2), 0, R + 1);
        Due.is("withdraw(1)", bus.withdraw(1), 1);
        Due.is("question(1, 4)", bus.question(1, 4), 4);
        Due.is("question(1, 8)", bus.question(1, 8), 1);
        Due.is("question(1, 7)", bus.question(1, 7), N);
        Due.is("answeredIn(1)", bus.answeredIn(1), TagBus.NOT_POSSIBLE);
        Due.row("trips", Due.trips(bus, 3), N, N, N);
    }

    // Promise 10: "1 to 99"
    private static void fewestAndMostTicks() {
        TagBus bus = new TagBus();
        bus.read(0, 0, 0);
        Due.is("pass(1)", bus.pass(1), 1);
        Due.is("count(0)", bus.count(0), 1);
        Due.is("pass(99)", bus.pass(99), 1);
        Due.is("count(0)", bus.count(0), 100);
        Due.is("count(9)", bus.count(9), 98);
        Due.is("pass(2)", bus.pass(2), 0);
        Due.is("pass(98)", bus.pass(98), 0);
        Due.is("count(0)", bus.count(0), 200);
    }

    // Promise 10: "FULL if the tick would become more than 9999"
    private static void latestTick() {
        TagBus bus = new TagBus();
        for (int i = 0; i < 100; i++) {
            bus.pass(99);
        }
        bus.keep();
        Due.is("pass(99) to 9999", bus.pass(99), 0);
        Due.is("count(0)", bus.count(0), 9999);
        Due.is("pass(1)", bus.pass(1), TagBus.FULL);
        // All but ticks goes on.
        Due.is("write", bus.write(0, 0, 0, 5), 0);
        Due.is("question(0, 4)", bus.question(0, 4), 0);
        Due.is("pass(1)", bus.pass(1), TagBus.FULL);
        Due.is("question(0, 4)", bus.question(0, 4), 0);
        Due.is("count(11)", bus.count(11), 4);
        Due.is("restore()", bus.restore(), 9900);
        Due.is("pass(98)", bus.pass(98), 0);
        bus.read(3, 3, 0);
        Due.is("pass(2)", bus.pass(2), TagBus.FULL);
        Due.is("count(7)", bus.count(7), 0);
        Due.is("pass(1)", bus.pass(1), 1);
        Due.is("count(0)", bus.count(0), 9999);
        Due.is("keep()", bus.keep(), 9999);
        Due.is("undo()", bus.undo(), 3);
        Due.is("count(0)", bus.count(0), 9998);
        Due.is("restore()", bus.restore(), 9999);
    }

    // Promise 10: "Returns how many trips are made in them, refused ones too"
    private static void refusedTripsAreTrips() {
        TagBus bus = new TagBus();
        bus.setTarget(0, 0, 1);
        bus.setTarget(0, 1, 9);
        bus.read(0, 0, 3);
        bus.read(1, 0, 3);
        Due.is("pass(10), with refusals in 1, 4 and 9", bus.pass(10), 4);
        Due.is("count(7)", bus.count(7), 1);
        Due.is("count(8)", bus.count(8), 3);
        Due.is("count(9)", bus.count(9), 6);
    }

    // Promise 11: "FULL if it has 60 characters"
    private static void sixtyCharacters() {
        TagBus bus = new TagBus();
        String text = "0>0w10=10;1>1w11=11;2>2w12=12;3>3w13=13;0>0w14=14;1>1w15=99;";
        Due.is("signs", text.length(), 60);
        for (int i = 0; i < 60; i++) {
            Due.is("type(..)", bus.type(text.charAt(i)), i + 1);
        }
        Due.is("type('2')", bus.type('2'), TagBus.FULL);
        Due.is("type((char) 0)", bus.type((char) 0), TagBus.FULL);
        Due.is("count(12)", bus.count(12), 60);
        Due.is("ask(), the text ends too early", bus.ask(), -160);
        Due.is("clearText()", bus.clearText(), 60);
        for (int i = 0; i < 59; i++) {
            bus.type(text.charAt(i));
        }
        Due.is("ask() of 59 signs", bus.ask(), 6);
        Due.is("question(5, 3)", bus.question(5, 3), 99);
        Due.is("type(any character)", bus.type((char) 65535), 60);
        Due.is("ask()", bus.ask(), -159);
    }

    // Promise 12: "Empties the text."
    private static void emptiedText() {
        TagBus bus = new TagBus();
        Due.is("clearText() of none", bus.clearText(), 0);
        String text = "2>1w13=45;3>0r9";
        for (int length = 0; length < text.length(); length++) {
            // Of the text that was, nothing may be read any more.
            Due.type(bus, text);
            Due.type(bus, text.substring(0, length));
            String early = text.substring(0, length);
            boolean whole = early.endsWith("=4") || early.endsWith("=45");
            Due.is("ask() of " + early, bus.ask(), whole ? 1 : -100 - length);
            Due.is("clearText()", bus.clearText(), length);
            Due.is("count(12)", bus.count(12), 0);
            Due.is("ask() of the empty text", bus.ask(), -100);
        }
        Due.is("question(0, 3)", bus.question(0, 3), 4);
        Due.is("question(1, 3)", bus.question(1, 3), 45);
    }

    // "A history of at most 4 states is kept; when one more is recorded, the oldest one is dropped"
    private static void fiveStates() {
        for (int acts = 0; acts <= 12; acts++) {
            TagBus bus = new TagBus();
            for (int i = 1; i <= acts; i++) {
                Due.is("pass(" + i + ")", bus.pass(i), 0);
            }
            int tick = acts * (acts + 1) / 2;
            int kept = Math.min(acts, 4);
            Due.is("count(11)", bus.count(11), kept);
            for (int left = kept - 1; left >= 0; left--) {
                tick -= acts - (kept - 1 - left);
                Due.is("undo()", bus.undo(), left);
                Due.is("count(0)", bus.count(0), tick);
                Due.is("count(11)", bus.count(11), left);
            }
            Due.is("undo() of " + acts, bus.undo(), N);
            Due.is("count(0)", bus.count(0), tick);
        }
    }

    // "Each call of a method that is described as an act, and returns no error and not NONE, records the state"
    private static void eachActIsOneState() {
        String[] acts = {"set", "setShare", "setTarget", "setCell", "read", "write", "ask", "withdraw", "pass", "restore"};
        for (int act = 0; act < acts.length; act++) {
            TagBus bus = new TagBus();
            Due.type(bus, "0>0r1;0>0r2;3>0r3");
            bus.read(1, 0, 0);
            bus.keep();
            int[] answers = {4, 2, 0, 0, 1, 1, 3, 0, 99, 0};
            Due.is(acts[act], make(bus, act), act == 8 ? 2 : answers[act]);
            Due.is("count(11) behind " + acts[act], bus.count(11), 2);
            Due.is("undo() of " + acts[act], bus.undo(), 1);
            int[] first = {bus.count(1), bus.master(3, 1), bus.target(3, 2), bus.cell(3, 15), bus.count(4), bus.master(1, 0),
                bus.count(0), bus.count(12)};
            Due.row("undo() of " + acts[act], first, 4, 2, 0, 0, 1, 1, 0, 17);
        }
        TagBus bus = new TagBus();
        bus.type('0');
        bus.keep();
        bus.clearText();
        Due.is("count(11) behind what is no act", bus.count(11), 0);
        Due.is("undo()", bus.undo(), N);
    }

    private static int make(TagBus bus, int act) {
        switch (act) {
            case 0: return bus.set(0, 8);
            case 1: return bus.setShare(3, 8);
            case 2: return bus.setTarget(3, 2, 1);
            case 3: return bus.setCell(3, 15, 99);
            case 4: return bus.read(3, 3, 15);
            case 5: return bus.write(3, 3, 15, 99);
            case 6: return bus.ask();
            case 7: return bus.withdraw(1);
            case 8: return bus.pass(99);
            default: return bus.restore();
        }
    }

    // "There is one snapshot, empty at first.", and promise 14: "in place of the one that was"
    private static void oneSnapshot() {
        TagBus bus = new TagBus();
        Due.is("restore() of none", bus.restore(), N);
        Due.is("count(11)", bus.count(11), 0);
        Due.is("keep()", bus.keep(), 0);
        bus.setCell(0, 0, 1);
        bus.pass(5);
        Due.is("keep()", bus.keep(), 5);
        bus.setCell(0, 0, 2);
        bus.pass(5);
        for (int i = 0; i < 3; i++) {
            Due.is("restore()", bus.restore(), 5);
            Due.is("cell(0, 0)", bus.cell(0, 0), 1);
            Due.is("count(0)", bus.count(0), 5);
            bus.setCell(0, 0, 3 + i);
        }
        for (int i = 0; i < 4; i++) {
            bus.undo();
        }
        Due.is("count(11)", bus.count(11), 0);
        Due.is("the snapshot stays behind undo()", bus.restore(), 5);
        Due.is("cell(0, 0)", bus.cell(0, 0), 1);
    }

    // Promise 15: "This is an act.", and NONE only without a snapshot: also if nothing would change
    private static void restoreIsAlwaysAnAct() {
        TagBus bus = new TagBus();
        bus.keep();
        for (int i = 1; i <= 6; i++) {
            Due.is("restore()", bus.restore(), 0);
            Due.is("count(11)", bus.count(11), Math.min(i, 4));
        }
        Due.is("undo()", bus.undo(), 3);
    }

    private static void snapshotOfAnEarlierTick() {
        TagBus bus = new TagBus();
        bus.write(0, 0, 3, 9);
        Due.is("keep()", bus.keep(), 0);
        for (int i = 0; i < 101; i++) {
            bus.pass(99);
        }
        Due.is("count(0)", bus.count(0), 9999);
        Due.is("pass(1)", bus.pass(1), TagBus.FULL);
        Due.is("restore()", bus.restore(), 0);
        Due.is("cell(0, 3)", bus.cell(0, 3), 0);
        Due.is("question(0, 4)", bus.question(0, 4), 0);
        Due.row("trips", Due.trips(bus, 7), 0, N, N, N, N, N, A);
        Due.is("cell(0, 3)", bus.cell(0, 3), 9);
    }
}
