/** Promises 8, 11 and 12. */
public final class TextsTest {
    public static void main(String[] args) {
        typing();
        goodTexts();
        faults();
        everySignAtEveryPlace();
        asking();
        fullRows();
        Due.end();
    }

    private static void typing() {
        TagBus bus = new TagBus();
        char[] signs = {0, 65535, ' ', '0', (char) 233};
        for (int i = 0; i < 60; i++) {
            Due.is("type(..)", bus.type(signs[i % signs.length]), i + 1);
        }
        Due.is("type('0')", bus.type('0'), TagBus.FULL);
        Due.is("count(12)", bus.count(12), 60);
        Due.is("count(11)", bus.count(11), 0);
        Due.is("clearText()", bus.clearText(), 60);
        Due.is("clearText()", bus.clearText(), 0);
        Due.is("count(12)", bus.count(12), 0);
        Due.is("type('0')", bus.type('0'), 1);
        Due.is("undo()", bus.undo(), TagBus.NONE);
        Due.is("count(12)", bus.count(12), 1);
    }

    private static void goodTexts() {
        good("0>0r0", 0, 0, 0, TagBus.NONE);
        good("3>3r9", 3, 3, 9, TagBus.NONE);
        good("1>2r10", 1, 2, 10, TagBus.NONE);
        good("1>2r15", 1, 2, 15, TagBus.NONE);
        good("2>1r1", 2, 1, 1, TagBus.NONE);
        good("2>0w0=0", 2, 0, 0, 0);
        good("2>0w1=9", 2, 0, 1, 9);
        good("2>0w15=10", 2, 0, 15, 10);
        good("2>0w12=99", 2, 0, 12, 99);
        good("0>1w5=42", 0, 1, 5, 42);
    }

    private static void good(String text, int master, int target, int address, int value) {
        TagBus bus = new TagBus();
        Due.type(bus, text);
        Due.is("ask() of " + text, bus.ask(), 1);
        Due.is("question(0, 0) of " + text, bus.question(0, 0), master);
        Due.is("question(0, 1) of " + text, bus.question(0, 1), target);
        Due.is("question(0, 2) of " + text, bus.question(0, 2), address);
        Due.is("question(0, 3) of " + text, bus.question(0, 3), value);
        Due.is("row of " + text, bus.row(master, 0), 0);
        Due.is("count(12) behind " + text, bus.count(12), text.length());
    }

    private static void faults() {
        String[] early = {"", "0", "0>", "0>1", "0>1r", "0>1w", "0>1w5", "0>1w15", "0>1w5=", "0>1r5;", "0>1r5;2>1w0="};
        for (String text : early) {
            fault(text, text.length());
        }
        fault("4>0r0", 0);
        fault(" 0>0r0", 0);
        fault(";", 0);
        fault(">0r0", 0);
        fault("00>0r0", 1);
        fault("0=0r0", 1);
        fault("0>4r0", 2);
        fault("0>r0", 2);
        fault("0>01r0", 3);
        fault("0>0R0", 3);
        fault("0>0;", 3);
        fault("0>0rr", 4);
        fault("0>0r-1", 4);
        fault("0>0r=", 4);
        fault("0>0r00", 5);
        fault("0>0r05", 5);
        fault("0>0r16", 5);
        fault("0>0r19", 5);
        fault("0>0r20", 5);
        fault("0>0r99", 5);
        fault("0>0r150", 6);
        fault("0>0r1=2", 5);
        fault("0>0r1 ", 5);
        fault("0>0w1;", 5);
        fault("0>0w16=1", 5);
        fault("0>0w1==", 6);
        fault("0>0w1=;", 6);
        fault("0>0w1=00", 7);
        fault("0>0w1=07", 7);
        fault("0>0w1=100", 8);
        fault("0>0w1=990", 8);
        fault("0>0w1=9:", 7);
        fault("0>0w1=9/", 7);
        fault("0>0r0;;", 6);
        fault("0>0r0;0>0r0,", 11);
        fault("0>0r0;0>0r0;9>0r0", 12);
        fault("0>0r" + (char) 0x661, 4);
        fault("0" + (char) 0, 1);
        fault("0>0r0" + (char) 65535, 5);
        // With all 60 signs typed, the text may end too early, too.
        fault("0>0r0;0>0r0;0>0r0;0>0r0;0>0r0;0>0r0;0>0r0;0>0r0;0>0r0;0>0r0;", 60);
        fault("0>0r0;0>0r0;0>0r0;0>0r0;0>0r0;0>0r0;0>0r0;0>0r0;0>0r0;0>0r0/", 59);
        fault("0>0w0=10;0>0w0=10;0>0w0=10;0>0w0=10;0>0w0=10;0>0w0=10;0>0w0=", 60);
    }

    private static void fault(String text, int due) {
        TagBus bus = new TagBus();
        bus.read(0, 0, 0);
        Due.type(bus, text);
        String before = Due.everything(bus);
        Due.is("ask() of " + text, bus.ask(), -100 - due);
        Due.same("ask() of " + text, Due.everything(bus), before);
    }

    /** Puts each sign at each place of a good text, and asks a reader of another kind what is due. */
    private static void everySignAtEveryPlace() {
        String good = "1>2w13=45;0>3r1;3>0r9;2>1w0=7";
        for (int place = 0; place < good.length(); place++) {
            for (char sign = '!'; sign < 128; sign++) {
                String text = good.substring(0, place) + sign + good.substring(place + 1);
                TagBus bus = new TagBus();
                Due.type(bus, text);
                int fault = Model.faultOf(text);
                Due.is("ask() of " + text, bus.ask(), fault < 0 ? 4 : -100 - fault);
            }
        }
    }

    private static void asking() {
        TagBus bus = new TagBus();
        Due.type(bus, "1>2w3=45;0>3r1;1>0r9;1>1w0=7");
        bus.read(0, 0, 0);
        bus.pass(1);
        Due.is("ask()", bus.ask(), 4);
        Due.is("count(11)", bus.count(11), 3);
        Due.is("count(4)", bus.count(4), 5);
        Due.is("row(1, 0)", bus.row(1, 0), 1);
        Due.is("row(1, 1)", bus.row(1, 1), 3);
        Due.is("row(1, 2)", bus.row(1, 2), 4);
        Due.is("row(0, 0)", bus.row(0, 0), 2);
        Due.is("question(4, 3)", bus.question(4, 3), 7);
        Due.is("question(3, 3)", bus.question(3, 3), TagBus.NONE);
        Due.is("ask() once more, the text stays", bus.ask(), 4);
        Due.is("row(1, 5)", bus.row(1, 5), 8);
        Due.is("undo() takes all of one ask() back", bus.undo(), 3);
        Due.is("count(4)", bus.count(4), 5);
        Due.is("undo()", bus.undo(), 2);
        Due.is("count(4)", bus.count(4), 1);
        Due.is("count(12)", bus.count(12), 28);
        bus.pass(30);
        Due.is("ask()", bus.ask(), 4);
        bus.pass(40);
        // The time of a question begins with the tick in which it was put, not with that in which the bus began.
        Due.is("question(3, 7)", bus.question(3, 7), 6);
        Due.is("question(1, 7)", bus.question(1, 7), 7);
    }

    private static void fullRows() {
        TagBus bus = new TagBus();
        Due.type(bus, "3>0r0;3>0r0;3>0r0;2>0r0;3>0r0;3>0r0;3>0r0");
        Due.is("ask() of six and one", bus.ask(), 7);
        Due.is("master(3, 0)", bus.master(3, 0), 6);
        Due.type(bus, "0>0r0;3>0r0");
        String before = Due.everything(bus);
        Due.is("ask()", bus.ask(), TagBus.FULL);
        Due.same("ask()", Due.everything(bus), before);
        Due.type(bus, "0>0r0;2>0r0");
        Due.is("ask()", bus.ask(), 2);
        bus = new TagBus();
        Due.type(bus, "0>0r0;0>0r0;0>0r0;0>0r0;0>0r0;0>0r0;0>0r0");
        Due.is("ask() of seven", bus.ask(), TagBus.FULL);
        Due.type(bus, "0>0r0;0>0r0;0>0r0;0>0r0;0>0r0;0>0r0;1>0r0;1>0r0;1>0r0;1>0r0");
        Due.is("count(12)", bus.count(12), 59);
        Due.is("ask() of ten", bus.ask(), 10);
        Due.is("row(1, 3)", bus.row(1, 3), 9);
        bus.undo();
        bus.type('5');
        Due.is("ask() of ten with 60 signs: 05", bus.ask(), -159);
    }
}
