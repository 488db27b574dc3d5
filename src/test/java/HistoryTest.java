import java.util.function.Consumer;

/** Promises 13 to 15, and what records a state. */
public final class HistoryTest {
    private static final int N = TagBus.NONE;

    public static void main(String[] args) {
        fourStates();
        undoIsExact();
        whatIsNotInAState();
        whatRecords();
        snapshots();
        numbersGivenAgain();
        numbersGivenAgainBehindRestore();
        errorsChangeNothing();
        Due.end();
    }

    private static void fourStates() {
        TagBus bus = new TagBus();
        Due.is("undo()", bus.undo(), TagBus.NONE);
        for (int i = 1; i <= 6; i++) {
            bus.setCell(0, 0, i);
            Due.is("count(11)", bus.count(11), Math.min(i, 4));
        }
        for (int left = 3; left >= 0; left--) {
            Due.is("undo()", bus.undo(), left);
            Due.is("cell(0, 0)", bus.cell(0, 0), left + 2);
            Due.is("count(11)", bus.count(11), left);
        }
        Due.is("undo()", bus.undo(), TagBus.NONE);
        Due.is("cell(0, 0)", bus.cell(0, 0), 2);
        bus.setCell(0, 0, 50);
        Due.is("count(11)", bus.count(11), 1);
        bus.setCell(0, 0, 51);
        Due.is("undo()", bus.undo(), 1);
        bus.setCell(0, 0, 52);
        Due.is("undo()", bus.undo(), 1);
        Due.is("undo()", bus.undo(), 0);
        Due.is("cell(0, 0)", bus.cell(0, 0), 2);
    }

    /** Brings a bus into the midst of its work: with refusals, waits, turns, tags, and questions of all kinds. */
    private static void work(TagBus bus) {
        bus.set(1, 2);
        bus.set(2, 5);
        bus.setShare(1, 3);
        bus.setTarget(1, 0, 1);
        bus.setTarget(1, 1, 9);
        bus.setTarget(2, 2, 1);
        Due.type(bus, "0>1w2=9;0>2r3;0>2r0;1>1r0;1>2w0=5");
        bus.ask();
        Due.type(bus, "1>3r1;2>1r2;2>0r0;3>0w0=4;3>2r0");
        bus.ask();
        bus.read(2, 3, 0);
        bus.withdraw(2);
        bus.pass(9);
    }

    private static void goOn(TagBus bus) {
        bus.pass(11);
        bus.read(0, 0, 5);
        bus.pass(7);
    }

    private static void undoIsExact() {
        for (int i = 1; i <= 40; i++) {
            int ahead = i;
            Consumer<TagBus> begin = bus -> {
                work(bus);
                bus.pass(ahead);
            };
            Consumer<TagBus> back = bus -> {
                for (int left = 3; left > 0; left--) {
                    Due.is("undo()", bus.undo(), left);
                }
            };
            Consumer<TagBus> backAndAgain = bus -> {
                back.accept(bus);
                Due.is("undo()", bus.undo(), 0);
                Due.is("pass(" + ahead + ") once more", bus.pass(ahead) >= 0 ? 1 : 0, 1);
            };
            String before = Due.stateBehind(begin);
            String behind = Due.stateBehind(begin, HistoryTest::goOn);
            Due.same("undo() behind " + ahead, Due.stateBehind(begin, HistoryTest::goOn, back), before);
            Due.same("pass(" + ahead + ") once more", Due.stateBehind(begin, HistoryTest::goOn, backAndAgain), before);
            Due.same("all of it once more", Due.stateBehind(begin, HistoryTest::goOn, backAndAgain, HistoryTest::goOn), behind);
        }
    }

    private static void whatIsNotInAState() {
        TagBus bus = new TagBus();
        Due.type(bus, "0>0r");
        bus.setCell(0, 0, 1);
        bus.type('7');
        Due.is("keep()", bus.keep(), 0);
        bus.setCell(0, 0, 2);
        bus.type(';');
        bus.undo();
        bus.undo();
        Due.is("cell(0, 0)", bus.cell(0, 0), 0);
        Due.is("the text is not undone", bus.count(12), 6);
        Due.is("the snapshot is not undone", bus.restore(), 0);
        Due.is("cell(0, 0)", bus.cell(0, 0), 1);
        Due.is("the text is not restored", bus.count(12), 6);
        Due.is("the history is not restored", bus.count(11), 1);
        Due.is("undo()", bus.undo(), 0);
        Due.is("cell(0, 0)", bus.cell(0, 0), 0);
    }

    private static void whatRecords() {
        TagBus bus = new TagBus();
        bus.type('0');
        bus.clearText();
        bus.keep();
        bus.undo();
        bus.question(0, 0);
        bus.next(0);
        bus.answeredIn(0);
        Due.is("count(11)", bus.count(11), 0);
        bus.restore();
        Due.is("count(11) behind restore()", bus.count(11), 1);
        bus.pass(1);
        Due.is("count(11) behind pass(1)", bus.count(11), 2);
        bus.read(0, 0, 0);
        Due.is("count(11) behind read(..)", bus.count(11), 3);
        bus.next(0);
        bus.answeredIn(0);
        bus.keep();
        Due.is("count(11)", bus.count(11), 3);
        bus.withdraw(0);
        Due.is("count(11) behind withdraw(0)", bus.count(11), 4);
        bus.undo();
        Due.is("withdrawn question is back", bus.question(0, 4), 0);
    }

    private static void snapshots() {
        TagBus none = new TagBus();
        Due.is("restore()", none.restore(), TagBus.NONE);
        Due.is("count(11)", none.count(11), 0);
        Consumer<TagBus> keep = bus -> {
            bus.pass(3);
            bus.read(0, 0, 0);
            Due.is("keep()", bus.keep(), 3);
        };
        Consumer<TagBus> later = bus -> bus.pass(20);
        Consumer<TagBus> restore = bus -> Due.is("restore()", bus.restore(), 3);
        Consumer<TagBus> restoreAgain = bus -> {
            bus.pass(2);
            Due.is("restore() once more", bus.restore(), 3);
        };
        Consumer<TagBus> undo = bus -> {
            Due.is("undo()", bus.undo(), 3);
            Due.is("undo()", bus.undo(), 2);
            Due.is("undo()", bus.undo(), 1);
        };
        Consumer<TagBus> keepAgain = bus -> {
            Due.is("keep() in place of the other", bus.keep(), 23);
            Due.is("undo()", bus.undo(), 0);
        };
        Consumer<TagBus> restoreTheOther = bus -> Due.is("restore()", bus.restore(), 23);
        String kept = Due.stateBehind(keep);
        String behind = Due.stateBehind(keep, later);
        Due.same("restore()", Due.stateBehind(keep, later, restore), kept);
        Due.same("restore() once more", Due.stateBehind(keep, later, restore, restoreAgain), kept);
        Due.same("undo() of restore()", Due.stateBehind(keep, later, restore, restoreAgain, undo), behind);
        Due.same("undo()", Due.stateBehind(keep, later, restore, restoreAgain, undo, keepAgain), kept);
        Due.same("restore() of the other", Due.stateBehind(keep, later, restore, restoreAgain, undo, keepAgain,
                restoreTheOther), behind);
        snapshotOfAWorkingBus();
    }

    private static void snapshotOfAWorkingBus() {
        Consumer<TagBus> keep = bus -> {
            work(bus);
            bus.keep();
        };
        Consumer<TagBus> later = bus -> bus.pass(30);
        String before = Due.stateBehind(HistoryTest::work);
        String behind = Due.stateBehind(HistoryTest::work, later);
        Due.same("keep()", Due.stateBehind(keep), before);
        Due.same("restore() of a working bus", Due.stateBehind(keep, later, TagBus::restore), before);
        Due.same("pass(30) once more", Due.stateBehind(keep, later, TagBus::restore, later), behind);
    }

    /** A number that is given again behind undo() tells nothing of the question that had it before. */
    private static void numbersGivenAgain() {
        TagBus bus = new TagBus();
        bus.setTarget(0, 0, 1);
        bus.setTarget(0, 2, 1);
        bus.read(0, 0, 3);
        bus.pass(1);
        bus.read(1, 0, 0);
        bus.pass(3);
        Due.is("question(1, 8)", bus.question(1, 8), 1);
        bus.undo();
        bus.undo();
        Due.is("write(2, 3, 4, 5)", bus.write(2, 3, 4, 5), 1);
        int[] fresh = {2, 3, 4, 5, 0, N, N, N, 0};
        for (int what = 0; what < fresh.length; what++) {
            Due.is("question(1, " + what + ")", bus.question(1, what), fresh[what]);
        }
        bus.keep();
        bus.pass(20);
        Due.is("question(1, 7)", bus.question(1, 7), 3);
        bus.undo();
        bus.undo();
        bus.pass(2);
        Due.is("read(0, 1, 2)", bus.read(0, 1, 2), 1);
        bus.pass(20);
        int[] other = {0, 1, 2, N, 3, N, 0, 5, 0};
        for (int what = 0; what < other.length; what++) {
            Due.is("question(1, " + what + ") in another's place", bus.question(1, what), other[what]);
        }
        Due.is("restore()", bus.restore(), 1);
        for (int what = 0; what < fresh.length; what++) {
            Due.is("question(1, " + what + ") of the snapshot", bus.question(1, what), fresh[what]);
        }
        bus.pass(20);
        Due.is("question(1, 7) of the snapshot", bus.question(1, 7), 3);
        bus.undo();
        bus.setTarget(0, 0, 2);
        bus.read(2, 0, 0);
        bus.pass(20);
        Due.is("count(10)", bus.count(10), 1);
        bus.undo();
        Due.is("count(10) behind undo()", bus.count(10), 0);
    }

    private static void numbersGivenAgainBehindRestore() {
        TagBus bus = new TagBus();
        bus.setTarget(0, 0, 1);
        bus.read(0, 0, 3);
        bus.pass(1);
        bus.keep();
        bus.write(1, 0, 0, 9);
        bus.pass(40);
        Due.is("question(1, 4)", bus.question(1, 4), 3);
        Due.is("question(1, 8)", bus.question(1, 8), 2);
        bus.restore();
        Due.is("question(1, 4)", bus.question(1, 4), TagBus.UNKNOWN);
        Due.is("read(2, 3, 4)", bus.read(2, 3, 4), 1);
        int[] fresh = {2, 3, 4, N, 0, N, N, N, 0};
        for (int what = 0; what < fresh.length; what++) {
            Due.is("question(1, " + what + ") behind restore()", bus.question(1, what), fresh[what]);
        }
        Due.is("answeredIn(1)", bus.answeredIn(1), 4);
    }

    private static void errorsChangeNothing() {
        Consumer<TagBus> begin = bus -> {
            work(bus);
            for (int i = 0; i < 6; i++) {
                bus.read(3, 0, 0);
            }
            Due.type(bus, "3>0r0");
        };
        Consumer<TagBus> errors = bus -> {
            int[] answers = {bus.set(3, 1), bus.set(1, 2), bus.setShare(1, 9), bus.setShare(4, 1), bus.setShare(1, 3),
                bus.setTarget(1, 0, 1), bus.setTarget(1, 0, 9), bus.setCell(0, 1, 0), bus.read(3, 0, 0),
                bus.write(3, 0, 0, 1), bus.ask(), bus.withdraw(4), bus.pass(0), bus.restore(), bus.next(2)};
            Due.row("errors", answers, TagBus.BAD_VALUE, N, TagBus.BAD_VALUE, TagBus.UNKNOWN, N, N, TagBus.BAD_VALUE, N,
                    TagBus.FULL, TagBus.FULL, TagBus.FULL, TagBus.UNKNOWN, TagBus.BAD_VALUE, N, TagBus.BAD_VALUE);
            Due.is("count(11) behind errors", bus.count(11), 4);
            Due.is("count(12) behind errors", bus.count(12), 5);
        };
        Due.same("errors", Due.stateBehind(begin, errors), Due.stateBehind(begin));
    }
}
