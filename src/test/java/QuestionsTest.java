/** Promises 6, 7 and 9. */
public final class QuestionsTest {
    public static void main(String[] args) {
        reading();
        writing();
        fullRows();
        twoHundredQuestions();
        withdrawing();
        withdrawnWaits();
        Due.end();
    }

    private static void reading() {
        TagBus bus = new TagBus();
        Due.is("read(-1, 0, 0)", bus.read(-1, 0, 0), TagBus.UNKNOWN);
        Due.is("read(4, 0, 0)", bus.read(4, 0, 0), TagBus.UNKNOWN);
        Due.is("read(0, -1, 0)", bus.read(0, -1, 0), TagBus.UNKNOWN);
        Due.is("read(0, 4, 16)", bus.read(0, 4, 16), TagBus.UNKNOWN);
        Due.is("read(0, 0, -1)", bus.read(0, 0, -1), TagBus.BAD_VALUE);
        Due.is("read(0, 0, 16)", bus.read(0, 0, 16), TagBus.BAD_VALUE);
        Due.is("read(MAX, MIN, 0)", bus.read(Integer.MAX_VALUE, Integer.MIN_VALUE, 0), TagBus.UNKNOWN);
        Due.is("count(4)", bus.count(4), 0);
        Due.is("count(11)", bus.count(11), 0);
        Due.is("read(3, 2, 15)", bus.read(3, 2, 15), 0);
        Due.is("read(0, 3, 0)", bus.read(0, 3, 0), 1);
        Due.is("read(3, 0, 4)", bus.read(3, 0, 4), 2);
        Due.is("count(4)", bus.count(4), 3);
        Due.is("count(11)", bus.count(11), 3);
        int[] first = {3, 2, 15, TagBus.NONE, 0, TagBus.NONE, TagBus.NONE, TagBus.NONE, 0};
        for (int what = 0; what < first.length; what++) {
            Due.is("question(0, " + what + ")", bus.question(0, what), first[what]);
        }
        Due.is("row(3, 0)", bus.row(3, 0), 0);
        Due.is("row(3, 1)", bus.row(3, 1), 2);
        Due.is("row(3, 2)", bus.row(3, 2), TagBus.NONE);
        Due.is("row(0, 0)", bus.row(0, 0), 1);
        Due.is("undo()", bus.undo(), 2);
        Due.is("row(3, 1)", bus.row(3, 1), TagBus.NONE);
        Due.is("question(2, 0)", bus.question(2, 0), TagBus.UNKNOWN);
        Due.is("read(2, 0, 4)", bus.read(2, 0, 4), 2);
    }

    private static void writing() {
        TagBus bus = new TagBus();
        Due.is("write(-1, 0, 0, 0)", bus.write(-1, 0, 0, 0), TagBus.UNKNOWN);
        Due.is("write(4, 0, 16, 100)", bus.write(4, 0, 16, 100), TagBus.UNKNOWN);
        Due.is("write(0, -1, 0, 0)", bus.write(0, -1, 0, 0), TagBus.UNKNOWN);
        Due.is("write(0, 4, 0, 100)", bus.write(0, 4, 0, 100), TagBus.UNKNOWN);
        Due.is("write(0, 0, -1, 0)", bus.write(0, 0, -1, 0), TagBus.BAD_VALUE);
        Due.is("write(0, 0, 16, 0)", bus.write(0, 0, 16, 0), TagBus.BAD_VALUE);
        Due.is("write(0, 0, 0, -1)", bus.write(0, 0, 0, -1), TagBus.BAD_VALUE);
        Due.is("write(0, 0, 0, NONE)", bus.write(0, 0, 0, TagBus.NONE), TagBus.BAD_VALUE);
        Due.is("write(0, 0, 0, 100)", bus.write(0, 0, 0, 100), TagBus.BAD_VALUE);
        Due.is("count(11)", bus.count(11), 0);
        Due.is("write(1, 3, 2, 99)", bus.write(1, 3, 2, 99), 0);
        Due.is("write(1, 3, 2, 0)", bus.write(1, 3, 2, 0), 1);
        Due.is("count(11)", bus.count(11), 2);
        int[] first = {1, 3, 2, 99, 0, TagBus.NONE, TagBus.NONE, TagBus.NONE, 0};
        for (int what = 0; what < first.length; what++) {
            Due.is("question(0, " + what + ")", bus.question(0, what), first[what]);
        }
        Due.is("question(1, 3)", bus.question(1, 3), 0);
        Due.is("cell(3, 2) is not written yet", bus.cell(3, 2), 0);
        bus.pass(20);
        Due.is("question(0, 6)", bus.question(0, 6), 0);
        Due.is("question(1, 6)", bus.question(1, 6), 99);
        Due.is("cell(3, 2)", bus.cell(3, 2), 0);
    }

    private static void fullRow(TagBus bus) {
        for (int i = 0; i < 6; i++) {
            Due.is("read(2, 0, 0)", bus.read(2, 0, 0), i);
        }
    }

    private static void refusals(TagBus bus) {
        Due.is("read(2, 0, 0)", bus.read(2, 0, 0), TagBus.FULL);
        Due.is("write(2, 0, 0, 0)", bus.write(2, 0, 0, 0), TagBus.FULL);
        Due.is("read(2, 0, 16)", bus.read(2, 0, 16), TagBus.BAD_VALUE);
        Due.is("write(2, 0, 0, 100)", bus.write(2, 0, 0, 100), TagBus.BAD_VALUE);
        Due.is("read(2, 4, 0)", bus.read(2, 4, 0), TagBus.UNKNOWN);
    }

    private static void fullRows() {
        Due.same("the full row", Due.stateBehind(QuestionsTest::fullRow, QuestionsTest::refusals),
                Due.stateBehind(QuestionsTest::fullRow));
        TagBus bus = new TagBus();
        fullRow(bus);
        refusals(bus);
        Due.is("count(11)", bus.count(11), 4);
        Due.is("read(1, 0, 0)", bus.read(1, 0, 0), 6);
        bus.pass(1);
        Due.is("master(2, 0)", bus.master(2, 0), 6);
        bus.pass(1);
        Due.is("master(2, 0)", bus.master(2, 0), 5);
        Due.is("write(2, 0, 0, 1)", bus.write(2, 0, 0, 1), 7);
        Due.is("row(2, 5)", bus.row(2, 5), 7);
        Due.is("row(2, 0)", bus.row(2, 0), 1);
    }

    private static void twoHundredQuestions() {
        TagBus bus = new TagBus();
        for (int i = 0; i < 199; i++) {
            Due.is("read(0, 0, 0)", bus.read(0, 0, 0), i);
            Due.is("withdraw(0)", bus.withdraw(0), i);
        }
        Due.type(bus, "0>0r0;1>0r0");
        Due.is("ask()", bus.ask(), TagBus.FULL);
        Due.is("write(3, 3, 3, 3)", bus.write(3, 3, 3, 3), 199);
        Due.is("question(199, 3)", bus.question(199, 3), 3);
        Due.is("read(0, 0, 0)", bus.read(0, 0, 0), TagBus.FULL);
        Due.is("write(0, 0, 0, 0)", bus.write(0, 0, 0, 0), TagBus.FULL);
        Due.is("write(0, 0, 0, 100)", bus.write(0, 0, 0, 100), TagBus.BAD_VALUE);
        Due.type(bus, "0>0r0");
        Due.is("ask()", bus.ask(), TagBus.FULL);
        Due.is("undo()", bus.undo(), 3);
        Due.is("count(4)", bus.count(4), 199);
        Due.is("ask()", bus.ask(), 1);
        Due.is("question(199, 0)", bus.question(199, 0), 0);
        Due.is("question(200, 0)", bus.question(200, 0), TagBus.UNKNOWN);
    }

    private static void withdrawing() {
        TagBus bus = new TagBus();
        Due.is("withdraw(-1)", bus.withdraw(-1), TagBus.UNKNOWN);
        Due.is("withdraw(4)", bus.withdraw(4), TagBus.UNKNOWN);
        Due.is("withdraw(0)", bus.withdraw(0), TagBus.NONE);
        Due.is("count(11)", bus.count(11), 0);
        bus.read(1, 0, 0);
        bus.read(1, 1, 5);
        Due.is("withdraw(0)", bus.withdraw(0), TagBus.NONE);
        Due.is("count(11)", bus.count(11), 2);
        Due.is("withdraw(1)", bus.withdraw(1), 1);
        Due.is("count(11)", bus.count(11), 3);
        Due.is("question(1, 4)", bus.question(1, 4), 4);
        Due.is("question(1, 0)", bus.question(1, 0), 1);
        Due.is("question(1, 1)", bus.question(1, 1), 1);
        Due.is("question(1, 2)", bus.question(1, 2), 5);
        Due.is("question(1, 5)", bus.question(1, 5), TagBus.NONE);
        Due.is("question(1, 6)", bus.question(1, 6), TagBus.NONE);
        Due.is("question(1, 7)", bus.question(1, 7), TagBus.NONE);
        Due.is("answeredIn(1)", bus.answeredIn(1), TagBus.NOT_POSSIBLE);
        Due.is("question(0, 4)", bus.question(0, 4), 0);
        Due.is("master(1, 0)", bus.master(1, 0), 1);
        Due.is("row(1, 1)", bus.row(1, 1), TagBus.NONE);
        Due.is("read(1, 0, 0)", bus.read(1, 0, 0), 2);
        Due.is("row(1, 1)", bus.row(1, 1), 2);
        bus.pass(1);
        Due.is("withdraw(1)", bus.withdraw(1), 2);
        Due.is("withdraw(1) of a sent one", bus.withdraw(1), TagBus.NONE);
        Due.is("undo()", bus.undo(), 3);
        Due.is("question(2, 4)", bus.question(2, 4), 0);
        Due.is("row(1, 0)", bus.row(1, 0), 2);
    }

    private static void withdrawnWaits() {
        TagBus bus = new TagBus();
        bus.set(0, 1);
        bus.read(0, 0, 3);
        bus.pass(1);
        bus.read(1, 0, 0);
        bus.read(1, 0, 0);
        bus.pass(3);
        Due.is("master(1, 5)", bus.master(1, 5), 3);
        bus.withdraw(1);
        Due.is("master(1, 5) with one left", bus.master(1, 5), 3);
        bus.withdraw(1);
        Due.is("master(1, 5) with none left", bus.master(1, 5), 0);
        bus.read(1, 0, 0);
        Due.is("master(1, 5) with a new one", bus.master(1, 5), 0);
        bus.pass(1);
        Due.is("master(1, 5) a tick later", bus.master(1, 5), 1);
    }
}
