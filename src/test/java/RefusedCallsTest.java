import java.util.function.Consumer;
import java.util.function.ToIntFunction;

/**
 * Every answer by which a call is refused: each error of each return line, NONE, and which one comes where several
 * apply. "A call that returns an error or NONE changes nothing": neither what is told at once nor what comes later.
 */
public final class RefusedCallsTest {
    private static final int UNKNOWN = TagBus.UNKNOWN;
    private static final int BAD = TagBus.BAD_VALUE;
    private static final int FULL = TagBus.FULL;
    private static final int NOT_POSSIBLE = TagBus.NOT_POSSIBLE;
    private static final int NONE = TagBus.NONE;

    public static void main(String[] args) {
        set();
        setShare();
        setTarget();
        setCell();
        read();
        write();
        ask();
        withdraw();
        pass();
        type();
        undoAndRestore();
        told();
        Due.end();
    }

    /** Each look is on an object of its own, so that none is used for more calls than the document allows. */
    private static void refused(String call, Consumer<TagBus> ahead, ToIntFunction<TagBus> made, int due) {
        for (int later = 0; later < 5; later++) {
            TagBus bus = new TagBus();
            TagBus other = new TagBus();
            ahead.accept(bus);
            ahead.accept(other);
            Due.is(call, made.applyAsInt(bus), due);
            goOn(bus, later);
            goOn(other, later);
            Due.same(call + ", later " + later, Due.everything(bus), Due.everything(other));
        }
    }

    private static void goOn(TagBus bus, int how) {
        if (how == 1) {
            bus.pass(30);
        } else if (how == 2) {
            bus.restore();
        } else if (how == 3) {
            bus.ask();
            bus.type('0');
        } else if (how == 4) {
            for (int i = 0; i < 4; i++) {
                bus.undo();
            }
        }
    }

    private static void fresh(TagBus bus) {
        Due.is("count(0) of a new bus", bus.count(0), 0);
    }

    /** Five acts, so that the history is full; the tags 0 and 1 are lent, a question was refused, a snapshot is kept. */
    private static void busy(TagBus bus) {
        bus.setTarget(1, 0, 1);
        bus.keep();
        Due.type(bus, "0>1w3=7;1>1r3;0>2r3");
        bus.ask();
        bus.pass(1);
        bus.setShare(0, 4);
        bus.pass(2);
        Due.is("count(11)", bus.count(11), 4);
        Due.is("tag(1)", bus.tag(1), 2);
        Due.is("question(1, 8)", bus.question(1, 8), 1);
    }

    /** The row of master 2 is full. */
    private static void fullRow(TagBus bus) {
        Due.type(bus, "2>0r0;2>0r0;2>0r0;2>0r0;2>0r0;2>0r0");
        bus.ask();
    }

    private static void set() {
        refused("set(-1, 1)", RefusedCallsTest::fresh, bus -> bus.set(-1, 1), BAD);
        refused("set(3, 1)", RefusedCallsTest::busy, bus -> bus.set(3, 1), BAD);
        refused("set(0, 0)", RefusedCallsTest::busy, bus -> bus.set(0, 0), BAD);
        refused("set(0, 9)", RefusedCallsTest::busy, bus -> bus.set(0, 9), BAD);
        refused("set(1, -1)", RefusedCallsTest::busy, bus -> bus.set(1, -1), BAD);
        refused("set(1, 3)", RefusedCallsTest::busy, bus -> bus.set(1, 3), BAD);
        refused("set(2, 0)", RefusedCallsTest::busy, bus -> bus.set(2, 0), BAD);
        refused("set(2, 51)", RefusedCallsTest::busy, bus -> bus.set(2, 51), BAD);
        refused("set(0, 1), but tag 1 is lent", RefusedCallsTest::busy, bus -> bus.set(0, 1), NOT_POSSIBLE);
        refused("set(0, 4)", RefusedCallsTest::busy, bus -> bus.set(0, 4), NONE);
        refused("set(1, 0)", RefusedCallsTest::busy, bus -> bus.set(1, 0), NONE);
        refused("set(2, 12)", RefusedCallsTest::busy, bus -> bus.set(2, 12), NONE);
        refused("set(2, 50) once more", bus -> bus.set(2, 50), bus -> bus.set(2, 50), NONE);
    }

    private static void setShare() {
        refused("setShare(-1, 3)", RefusedCallsTest::busy, bus -> bus.setShare(-1, 3), UNKNOWN);
        refused("setShare(4, 3)", RefusedCallsTest::busy, bus -> bus.setShare(4, 3), UNKNOWN);
        refused("setShare(4, 9)", RefusedCallsTest::busy, bus -> bus.setShare(4, 9), UNKNOWN);
        refused("setShare(0, 0)", RefusedCallsTest::busy, bus -> bus.setShare(0, 0), BAD);
        refused("setShare(0, 9)", RefusedCallsTest::busy, bus -> bus.setShare(0, 9), BAD);
        refused("setShare(0, 4) once more", RefusedCallsTest::busy, bus -> bus.setShare(0, 4), NONE);
        refused("setShare(3, 2)", RefusedCallsTest::busy, bus -> bus.setShare(3, 2), NONE);
    }

    private static void setTarget() {
        refused("setTarget(-1, 0, 1)", RefusedCallsTest::busy, bus -> bus.setTarget(-1, 0, 1), UNKNOWN);
        refused("setTarget(4, 0, 1)", RefusedCallsTest::busy, bus -> bus.setTarget(4, 0, 1), UNKNOWN);
        refused("setTarget(4, 3, 9)", RefusedCallsTest::busy, bus -> bus.setTarget(4, 3, 9), UNKNOWN);
        refused("setTarget(1, -1, 1)", RefusedCallsTest::busy, bus -> bus.setTarget(1, -1, 1), BAD);
        refused("setTarget(1, 3, 1)", RefusedCallsTest::busy, bus -> bus.setTarget(1, 3, 1), BAD);
        refused("setTarget(1, 0, 0)", RefusedCallsTest::busy, bus -> bus.setTarget(1, 0, 0), BAD);
        refused("setTarget(1, 0, 5)", RefusedCallsTest::busy, bus -> bus.setTarget(1, 0, 5), BAD);
        refused("setTarget(1, 1, 0)", RefusedCallsTest::busy, bus -> bus.setTarget(1, 1, 0), BAD);
        refused("setTarget(1, 1, 10)", RefusedCallsTest::busy, bus -> bus.setTarget(1, 1, 10), BAD);
        refused("setTarget(1, 2, -1)", RefusedCallsTest::busy, bus -> bus.setTarget(1, 2, -1), BAD);
        refused("setTarget(1, 2, 2)", RefusedCallsTest::busy, bus -> bus.setTarget(1, 2, 2), BAD);
        refused("setTarget(1, 0, 1)", RefusedCallsTest::busy, bus -> bus.setTarget(1, 0, 1), NONE);
        refused("setTarget(1, 1, 3)", RefusedCallsTest::busy, bus -> bus.setTarget(1, 1, 3), NONE);
        refused("setTarget(1, 2, 0)", RefusedCallsTest::busy, bus -> bus.setTarget(1, 2, 0), NONE);
    }

    private static void setCell() {
        refused("setCell(-1, 0, 1)", RefusedCallsTest::busy, bus -> bus.setCell(-1, 0, 1), UNKNOWN);
        refused("setCell(4, 16, 100)", RefusedCallsTest::busy, bus -> bus.setCell(4, 16, 100), UNKNOWN);
        refused("setCell(0, -1, 1)", RefusedCallsTest::busy, bus -> bus.setCell(0, -1, 1), BAD);
        refused("setCell(0, 16, 1)", RefusedCallsTest::busy, bus -> bus.setCell(0, 16, 1), BAD);
        refused("setCell(0, 0, -1)", RefusedCallsTest::busy, bus -> bus.setCell(0, 0, -1), BAD);
        refused("setCell(0, 0, 100)", RefusedCallsTest::busy, bus -> bus.setCell(0, 0, 100), BAD);
        refused("setCell(0, 0, 0)", RefusedCallsTest::busy, bus -> bus.setCell(0, 0, 0), NONE);
        // The cell is not written yet, though a question that would write it is in the target.
        refused("setCell(1, 3, 0)", RefusedCallsTest::busy, bus -> bus.setCell(1, 3, 0), NONE);
    }

    private static void read() {
        refused("read(-1, 0, 0)", RefusedCallsTest::busy, bus -> bus.read(-1, 0, 0), UNKNOWN);
        refused("read(4, 0, 0)", RefusedCallsTest::busy, bus -> bus.read(4, 0, 0), UNKNOWN);
        refused("read(2, 4, 0), and the row is full", RefusedCallsTest::fullRow, bus -> bus.read(2, 4, 0), UNKNOWN);
        refused("read(2, -1, 16)", RefusedCallsTest::fullRow, bus -> bus.read(2, -1, 16), UNKNOWN);
        refused("read(2, 0, 16), and the row is full", RefusedCallsTest::fullRow, bus -> bus.read(2, 0, 16), BAD);
        refused("read(2, 0, -1), and the row is full", RefusedCallsTest::fullRow, bus -> bus.read(2, 0, -1), BAD);
        refused("read(2, 3, 15), and the row is full", RefusedCallsTest::fullRow, bus -> bus.read(2, 3, 15), FULL);
    }

    private static void write() {
        refused("write(-1, 0, 0, 0)", RefusedCallsTest::busy, bus -> bus.write(-1, 0, 0, 0), UNKNOWN);
        refused("write(2, 4, 0, 0), and the row is full", RefusedCallsTest::fullRow, bus -> bus.write(2, 4, 0, 0), UNKNOWN);
        refused("write(4, 0, 16, 100)", RefusedCallsTest::fullRow, bus -> bus.write(4, 0, 16, 100), UNKNOWN);
        refused("write(2, 0, 16, 0)", RefusedCallsTest::fullRow, bus -> bus.write(2, 0, 16, 0), BAD);
        refused("write(2, 0, 0, 100)", RefusedCallsTest::fullRow, bus -> bus.write(2, 0, 0, 100), BAD);
        refused("write(2, 0, 0, -1)", RefusedCallsTest::fullRow, bus -> bus.write(2, 0, 0, -1), BAD);
        refused("write(2, 0, 0, 99), and the row is full", RefusedCallsTest::fullRow, bus -> bus.write(2, 0, 0, 99), FULL);
    }

    private static Consumer<TagBus> typed(Consumer<TagBus> ahead, String text) {
        return bus -> {
            ahead.accept(bus);
            Due.type(bus, text);
        };
    }

    private static void ask() {
        refused("ask() of no text", RefusedCallsTest::fresh, TagBus::ask, -100);
        refused("ask() of a text that ends too early", typed(RefusedCallsTest::busy, "0>1r"), TagBus::ask, -104);
        // The questions ahead of the fault are not put either.
        refused("ask() of a fault behind a question", typed(RefusedCallsTest::busy, "0>1r1;x"), TagBus::ask, -106);
        refused("ask(), and the row is full", typed(RefusedCallsTest::fullRow, "1>0r0;2>0r0"), TagBus::ask, FULL);
        refused("ask() of a fault, and the row is full", typed(RefusedCallsTest::fullRow, "2>0r0;"), TagBus::ask, -106);
        refused("ask() of seven", typed(RefusedCallsTest::fresh, "3>0r0;3>0r0;3>0r0;3>0r0;3>0r0;3>0r0;3>0r0"),
                TagBus::ask, FULL);
    }

    private static void withdraw() {
        refused("withdraw(-1)", RefusedCallsTest::busy, bus -> bus.withdraw(-1), UNKNOWN);
        refused("withdraw(4)", RefusedCallsTest::busy, bus -> bus.withdraw(4), UNKNOWN);
        refused("withdraw(3), and its row is empty", RefusedCallsTest::busy, bus -> bus.withdraw(3), NONE);
        refused("withdraw(0), and all of its questions were sent", RefusedCallsTest::busy, bus -> bus.withdraw(0), NONE);
    }

    /** The tick is the last one but two, a question is in a target, and one in a row. */
    private static void late(TagBus bus) {
        for (int i = 0; i < 100; i++) {
            bus.pass(99);
        }
        bus.read(0, 0, 0);
        bus.pass(97);
        bus.read(0, 0, 3);
        Due.is("count(0)", bus.count(0), 9997);
    }

    private static void pass() {
        for (int ticks : new int[] {Integer.MIN_VALUE, -1, 0, 100, Integer.MAX_VALUE}) {
            refused("pass(" + ticks + ")", RefusedCallsTest::busy, bus -> bus.pass(ticks), BAD);
            refused("pass(" + ticks + ") in a late tick", RefusedCallsTest::late, bus -> bus.pass(ticks), BAD);
        }
        // No tick of them passes, not even those for which there is room.
        refused("pass(3) in the tick 9997", RefusedCallsTest::late, bus -> bus.pass(3), FULL);
        refused("pass(99) in the tick 9997", RefusedCallsTest::late, bus -> bus.pass(99), FULL);
        refused("pass(1) in the tick 9999", bus -> {
            late(bus);
            Due.is("pass(2)", bus.pass(2), 1);
        }, bus -> bus.pass(1), FULL);
    }

    private static void type() {
        String sixty = "0>0r0;0>0r0;0>0r0;0>0r0;0>0r0;0>0r0;1>0r0;1>0r0;1>0r0;1>0r10";
        Due.is("length", sixty.length(), 60);
        refused("type('0') behind 60", typed(RefusedCallsTest::fresh, sixty), bus -> bus.type('0'), FULL);
        refused("type(';') behind 60", typed(RefusedCallsTest::fresh, sixty), bus -> bus.type(';'), FULL);
        refused("type((char) 0) behind 60", typed(RefusedCallsTest::busy, sixty), bus -> bus.type((char) 0), FULL);
    }

    private static void undoAndRestore() {
        refused("undo()", RefusedCallsTest::fresh, TagBus::undo, NONE);
        refused("undo() a fifth time", bus -> {
            busy(bus);
            for (int left = 3; left >= 0; left--) {
                Due.is("undo()", bus.undo(), left);
            }
        }, TagBus::undo, NONE);
        refused("restore()", RefusedCallsTest::fresh, TagBus::restore, NONE);
        refused("restore() behind other acts", RefusedCallsTest::fullRow, TagBus::restore, NONE);
    }

    private static void told() {
        refused("question(3, 0)", RefusedCallsTest::busy, bus -> bus.question(3, 0), UNKNOWN);
        refused("question(3, 9)", RefusedCallsTest::busy, bus -> bus.question(3, 9), UNKNOWN);
        refused("question(2, 9)", RefusedCallsTest::busy, bus -> bus.question(2, 9), BAD);
        refused("tag(4)", RefusedCallsTest::busy, bus -> bus.tag(4), UNKNOWN);
        refused("tag(3)", RefusedCallsTest::busy, bus -> bus.tag(3), NONE);
        refused("master(4, 9)", RefusedCallsTest::busy, bus -> bus.master(4, 9), UNKNOWN);
        refused("master(3, 9)", RefusedCallsTest::busy, bus -> bus.master(3, 9), BAD);
        refused("master(3, 7)", RefusedCallsTest::busy, bus -> bus.master(3, 7), NONE);
        refused("row(4, -1)", RefusedCallsTest::busy, bus -> bus.row(4, -1), UNKNOWN);
        refused("row(1, -1)", RefusedCallsTest::busy, bus -> bus.row(1, -1), BAD);
        refused("row(1, 1)", RefusedCallsTest::busy, bus -> bus.row(1, 1), NONE);
        refused("target(4, 6)", RefusedCallsTest::busy, bus -> bus.target(4, 6), UNKNOWN);
        refused("target(1, 6)", RefusedCallsTest::busy, bus -> bus.target(1, 6), BAD);
        refused("target(1, 5)", RefusedCallsTest::busy, bus -> bus.target(1, 5), NONE);
        refused("cell(4, 16)", RefusedCallsTest::busy, bus -> bus.cell(4, 16), UNKNOWN);
        refused("cell(1, 16)", RefusedCallsTest::busy, bus -> bus.cell(1, 16), BAD);
        refused("next(2)", RefusedCallsTest::busy, bus -> bus.next(2), BAD);
        refused("next(0)", RefusedCallsTest::fresh, bus -> bus.next(0), NONE);
        refused("answeredIn(3)", RefusedCallsTest::busy, bus -> bus.answeredIn(3), UNKNOWN);
        refused("answeredIn(2) of an answered one", bus -> {
            busy(bus);
            bus.pass(20);
        }, bus -> bus.answeredIn(2), NOT_POSSIBLE);
        refused("answeredIn(1) of a withdrawn one", bus -> {
            busy(bus);
            Due.is("withdraw(1)", bus.withdraw(1), 1);
        }, bus -> bus.answeredIn(1), NOT_POSSIBLE);
        refused("count(13)", RefusedCallsTest::busy, bus -> bus.count(13), BAD);
    }
}
