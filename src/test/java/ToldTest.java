import java.util.function.Consumer;

/** Promises 16 to 24: what is told, for wrong inputs and for what no other test looks at. */
public final class ToldTest {
    private static final int N = TagBus.NONE;

    public static void main(String[] args) {
        wrongQuestions();
        tags();
        wrongMasters();
        rows();
        wrongTargets();
        cells();
        next();
        answeredIn();
        counts();
        longestTime();
        tellingChangesNothing();
        Due.end();
    }

    private static void wrongQuestions() {
        TagBus bus = new TagBus();
        bus.read(0, 0, 0);
        for (int number : new int[] {-1, 1, 199, 200, Integer.MAX_VALUE, Integer.MIN_VALUE}) {
            Due.is("question(" + number + ", 0)", bus.question(number, 0), TagBus.UNKNOWN);
            Due.is("question(" + number + ", 9)", bus.question(number, 9), TagBus.UNKNOWN);
            Due.is("answeredIn(" + number + ")", bus.answeredIn(number), TagBus.UNKNOWN);
        }
        for (int what : new int[] {-1, 9, Integer.MAX_VALUE, Integer.MIN_VALUE}) {
            Due.is("question(0, " + what + ")", bus.question(0, what), TagBus.BAD_VALUE);
        }
    }

    private static void tags() {
        TagBus bus = new TagBus();
        for (int tag : new int[] {-1, 4, 7, 8, Integer.MAX_VALUE, Integer.MIN_VALUE}) {
            Due.is("tag(" + tag + ")", bus.tag(tag), TagBus.UNKNOWN);
        }
        Due.is("tag(3)", bus.tag(3), N);
        bus.set(0, 8);
        Due.is("tag(7)", bus.tag(7), N);
        Due.is("tag(8)", bus.tag(8), TagBus.UNKNOWN);
    }

    private static void wrongMasters() {
        TagBus bus = new TagBus();
        for (int master : new int[] {-1, 4, Integer.MAX_VALUE, Integer.MIN_VALUE}) {
            Due.is("master(" + master + ", 0)", bus.master(master, 0), TagBus.UNKNOWN);
            Due.is("master(" + master + ", 9)", bus.master(master, 9), TagBus.UNKNOWN);
            Due.is("row(" + master + ", 0)", bus.row(master, 0), TagBus.UNKNOWN);
            Due.is("row(" + master + ", -1)", bus.row(master, -1), TagBus.UNKNOWN);
        }
        for (int what : new int[] {-1, 9, Integer.MAX_VALUE, Integer.MIN_VALUE}) {
            Due.is("master(3, " + what + ")", bus.master(3, what), TagBus.BAD_VALUE);
        }
    }

    private static void rows() {
        TagBus bus = new TagBus();
        Due.is("row(3, -1)", bus.row(3, -1), TagBus.BAD_VALUE);
        Due.is("row(3, MIN)", bus.row(3, Integer.MIN_VALUE), TagBus.BAD_VALUE);
        Due.is("row(3, MAX)", bus.row(3, Integer.MAX_VALUE), N);
        for (int i = 0; i < 6; i++) {
            bus.read(3, 0, i);
        }
        for (int i = 0; i < 6; i++) {
            Due.is("row(3, " + i + ")", bus.row(3, i), i);
        }
        Due.is("row(3, 6)", bus.row(3, 6), N);
        Due.is("row(2, 0)", bus.row(2, 0), N);
        Due.is("master(3, 0)", bus.master(3, 0), 6);
        bus.pass(1);
        Due.is("row(3, 0)", bus.row(3, 0), 1);
        Due.is("row(3, 4)", bus.row(3, 4), 5);
        Due.is("row(3, 5)", bus.row(3, 5), N);
    }

    private static void wrongTargets() {
        TagBus bus = new TagBus();
        for (int target : new int[] {-1, 4, Integer.MAX_VALUE, Integer.MIN_VALUE}) {
            Due.is("target(" + target + ", 0)", bus.target(target, 0), TagBus.UNKNOWN);
            Due.is("target(" + target + ", 6)", bus.target(target, 6), TagBus.UNKNOWN);
            Due.is("cell(" + target + ", 16)", bus.cell(target, 16), TagBus.UNKNOWN);
        }
        for (int what : new int[] {-1, 6, Integer.MAX_VALUE, Integer.MIN_VALUE}) {
            Due.is("target(0, " + what + ")", bus.target(0, what), TagBus.BAD_VALUE);
        }
    }

    private static void cells() {
        TagBus bus = new TagBus();
        for (int address : new int[] {-1, 16, Integer.MAX_VALUE, Integer.MIN_VALUE}) {
            Due.is("cell(0, " + address + ")", bus.cell(0, address), TagBus.BAD_VALUE);
        }
        for (int i = 0; i < 64; i++) {
            bus.setCell(i / 16, i % 16, i + 1);
        }
        for (int i = 0; i < 64; i++) {
            Due.is("cell(" + i / 16 + ", " + i % 16 + ")", bus.cell(i / 16, i % 16), i + 1);
        }
    }

    private static void next() {
        TagBus bus = new TagBus();
        for (int what : new int[] {-1, 2, Integer.MAX_VALUE, Integer.MIN_VALUE}) {
            Due.is("next(" + what + ")", bus.next(what), TagBus.BAD_VALUE);
        }
        bus.setTarget(1, 0, 1);
        bus.read(0, 1, 0);
        bus.read(2, 1, 0);
        Due.is("next(0)", bus.next(0), 0);
        Due.is("next(1)", bus.next(1), 0);
        bus.pass(1);
        Due.is("next(0)", bus.next(0), 1);
        Due.is("next(1)", bus.next(1), 2);
        bus.pass(1);
        Due.is("next(0)", bus.next(0), N);
        Due.is("next(1)", bus.next(1), N);
        bus.pass(1);
        // It is done in the next tick: next tells of it, target does not yet.
        Due.is("next(0)", bus.next(0), 0);
        Due.is("next(1)", bus.next(1), 1);
        Due.is("target(1, 4)", bus.target(1, 4), 0);
        Due.is("target(1, 5)", bus.target(1, 5), N);
        Due.is("question(0, 4)", bus.question(0, 4), 1);
    }

    private static void answeredIn() {
        TagBus bus = new TagBus();
        bus.read(0, 1, 1);
        bus.read(0, 1, 1);
        bus.read(0, 1, 1);
        // Sent in the ticks 0, 1 and 6, done in 4, 5 and 10.
        Due.is("answeredIn(0)", bus.answeredIn(0), 5);
        Due.is("answeredIn(1)", bus.answeredIn(1), 6);
        Due.is("answeredIn(2)", bus.answeredIn(2), 11);
        bus.pass(4);
        Due.is("answeredIn(0)", bus.answeredIn(0), 1);
        Due.is("answeredIn(2)", bus.answeredIn(2), 7);
        bus.pass(1);
        Due.is("answeredIn(0)", bus.answeredIn(0), TagBus.NOT_POSSIBLE);
        Due.is("answeredIn(1)", bus.answeredIn(1), 1);
        Due.is("withdraw(0)", bus.withdraw(0), 2);
        Due.is("answeredIn(2)", bus.answeredIn(2), TagBus.NOT_POSSIBLE);
        bus.pass(1);
        Due.is("question(1, 4)", bus.question(1, 4), 3);
        farAway();
    }

    /** One tag and slow targets: 24 questions of 13 ticks each. */
    private static void farAway() {
        TagBus bus = new TagBus();
        bus.set(0, 1);
        bus.setTarget(0, 1, 9);
        for (int i = 0; i < 24; i++) {
            bus.read(i / 6, 0, 3);
        }
        Due.is("answeredIn(0)", bus.answeredIn(0), 13);
        int last = bus.answeredIn(23);
        Due.is("answeredIn(23)", last, 24 * 13);
        bus.pass(99);
        bus.pass(99);
        bus.pass(99);
        Due.is("answeredIn(23)", bus.answeredIn(23), 24 * 13 - 297);
        bus.pass(24 * 13 - 297);
        Due.is("question(23, 4)", bus.question(23, 4), 3);
        Due.is("question(23, 7)", bus.question(23, 7), 24 * 13 - 1);
        Due.is("count(6)", bus.count(6), 24);
    }

    private static void counts() {
        TagBus bus = new TagBus();
        for (int what : new int[] {-1, 13, Integer.MAX_VALUE, Integer.MIN_VALUE}) {
            Due.is("count(" + what + ")", bus.count(what), TagBus.BAD_VALUE);
        }
        bus.set(0, 7);
        bus.set(1, 1);
        bus.set(2, 33);
        bus.setTarget(0, 0, 1);
        bus.setTarget(1, 2, 1);
        bus.type('x');
        bus.type('y');
        Due.is("count(11)", bus.count(11), 4);
        bus.read(0, 0, 0);
        bus.read(1, 0, 0);
        bus.read(2, 1, 3);
        bus.read(2, 1, 0);
        // Ticks 0 to 3: question 0, question 1 is refused, question 2, question 3.
        bus.pass(4);
        int[] counts = {4, 7, 1, 33, 4, 4, 0, 3, 1, 0, 0, 4, 2};
        for (int what = 0; what < counts.length; what++) {
            Due.is("count(" + what + ")", bus.count(what), counts[what]);
        }
        // Question 1 is refused in tick 4 as well; 0 goes in 5, 3 in 6 (ahead of 2), 2 in 8, 1 in 9 and 12.
        bus.pass(16);
        int[] behind = {20, 7, 1, 33, 4, 7, 4, 4, 2, 10, 1, 4, 2};
        for (int what = 0; what < behind.length; what++) {
            Due.is("count(" + what + ")", bus.count(what), behind[what]);
        }
    }

    private static void longestTime() {
        TagBus bus = new TagBus();
        bus.read(0, 0, 3);
        bus.pass(10);
        Due.is("master(0, 7)", bus.master(0, 7), 6);
        bus.read(0, 0, 0);
        bus.pass(10);
        Due.is("question(1, 7)", bus.question(1, 7), 3);
        Due.is("master(0, 7)", bus.master(0, 7), 6);
        bus.setTarget(0, 1, 9);
        bus.read(0, 0, 1);
        bus.pass(20);
        Due.is("master(0, 7)", bus.master(0, 7), 10);
        Due.is("master(0, 6)", bus.master(0, 6), 3);
        Due.is("master(1, 6)", bus.master(1, 6), 0);
        Due.is("master(1, 7)", bus.master(1, 7), N);
    }

    private static void tellingChangesNothing() {
        for (int i = 1; i <= 20; i++) {
            int ticks = i;
            Consumer<TagBus> begin = bus -> {
                Due.type(bus, "0>0w1=5;0>0r1;1>0r1;2>3r0");
                bus.ask();
                bus.pass(ticks);
            };
            String first = Due.stateBehind(begin);
            // Each is told behind all of the telling of the other.
            Due.same("telling", Due.stateBehind(begin, ToldTest::tellsAgain), first);
        }
    }

    private static void tellsAgain(TagBus bus) {
        Due.is("a state that is told is empty", Due.everything(bus).isEmpty() ? 1 : 0, 0);
    }
}
