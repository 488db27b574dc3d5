import java.util.function.Consumer;

/** Promises 8, 11 and 12. */
public final class TextsTest {
    public static void main(String[] args) {
        typing();
        goodTexts();
        faults();
        everySignAtEveryPlace();
        everyAddress();
        everyValue();
        everyMasterAndTarget();
        oneOrMoreQuestions();
        asking();
        fullRows();
        Due.end();
    }

    private static void typing() {
        TagBus bus = new TagBus();
        char[] signs = {0, 65535, ' ', '0', (char) 233};
        for (int i = 0; i < 60; i++) {
            Due.is("type(..)", bus.type(signs[i % signs.length]), i + 1);
        }
        Due.is("type('0')", bus.type('0'), TagBus.FULL);
        Due.is("count(12)", bus.count(12), 60);
        Due.is("count(11)", bus.count(11), 0);
        Due.is("clearText()", bus.clearText(), 60);
        Due.is("clearText()", bus.clearText(), 0);
        Due.is("count(12)", bus.count(12), 0);
        Due.is("type('0')", bus.type('0'), 1);
        Due.is("undo()", bus.undo(), TagBus.NONE);
        Due.is("count(12)", bus.count(12), 1);
    }

    private static void goodTexts() {
        good("0>0r0", 0, 0, 0, TagBus.NONE);
        good("3>3r9", 3, 3, 9, TagBus.NONE);
        good("1>2r10", 1, 2, 10, TagBus.NONE);
        good("1>2r15", 1, 2, 15, TagBus.NONE);
        good("2>1r1", 2, 1, 1, TagBus.NONE);
        good("2>0w0=0", 2, 0, 0, 0);
        good("2>0w1=9", 2, 0, 1, 9);
        good("2>0w15=10", 2, 0, 15, 10);
        good("2>0w12=99", 2, 0, 12, 99);
        good("0>1w5=42", 0, 1, 5, 42);
    }

    private static void good(String text, int master, int target, int address, int value) {
        TagBus bus = new TagBus();
        Due.type(bus, text);
        Due.is("ask() of " + text, bus.ask(), 1);
        Due.is("question(0, 0) of " + text, bus.question(0, 0), master);
        Due.is("question(0, 1) of " + text, bus.question(0, 1), target);
        Due.is("question(0, 2) of " + text, bus.question(0, 2), address);
        Due.is("question(0, 3) of " + text, bus.question(0, 3), value);
        Due.is("row of " + text, bus.row(master, 0), 0);
        Due.is("count(12) behind " + text, bus.count(12), text.length());
    }

    private static void faults() {
        String[] early = {"", "0", "0>", "0>1", "0>1r", "0>1w", "0>1w5", "0>1w15", "0>1w5=", "0>1r5;", "0>1r5;2>1w0="};
        for (String text : early) {
            fault(text, text.length());
        }
        fault("4>0r0", 0);
        fault(" 0>0r0", 0);
        fault(";", 0);
        fault(">0r0", 0);
        fault("00>0r0", 1);
        fault("0=0r0", 1);
        fault("0>4r0", 2);
        fault("0>r0", 2);
        fault("0>01r0", 3);
        fault("0>0R0", 3);
        fault("0>0;", 3);
        fault("0>0rr", 4);
        fault("0>0r-1", 4);
        fault("0>0r=", 4);
        fault("0>0r00", 5);
        fault("0>0r05", 5);
        fault("0>0r16", 5);
        fault("0>0r19", 5);
        fault("0>0r20", 5);
        fault("0>0r99", 5);
        fault("0>0r150", 6);
        fault("0>0r1=2", 5);
        fault("0>0r1 ", 5);
        fault("0>0w1;", 5);
        fault("0>0w16=1", 5);
        fault("0>0w1==", 6);
        fault("0>0w1=;", 6);
        fault("0>0w1=00", 7);
        fault("0>0w1=07", 7);
        fault("0>0w1=100", 8);
        fault("0>0w1=990", 8);
        fault("0>0w1=9:", 7);
        fault("0>0w1=9/", 7);
        fault("0>0w1=/", 6);
        fault("0>0w1=:", 6);
        fault("/>0r0", 0);
        fault("0>/r0", 2);
        fault("0>0r0;;", 6);
        fault("0>0r0;0>0r0,", 11);
        fault("0>0r0;0>0r0;9>0r0", 12);
        fault("0>0r" + (char) 0x661, 4);
        fault("0" + (char) 0, 1);
        fault("0>0r0" + (char) 65535, 5);
        // With all 60 signs typed, the text may end too early, too.
        fault("0>0r0;0>0r0;0>0r0;0>0r0;0>0r0;0>0r0;0>0r0;0>0r0;0>0r0;0>0r0;", 60);
        fault("0>0r0;0>0r0;0>0r0;0>0r0;0>0r0;0>0r0;0>0r0;0>0r0;0>0r0;0>0r0/", 59);
        fault("0>0w0=10;0>0w0=10;0>0w0=10;0>0w0=10;0>0w0=10;0>0w0=10;0>0w0=", 60);
    }

    private static void fault(String text, int due) {
        TagBus bus = new TagBus();
        bus.read(0, 0, 0);
        Due.type(bus, text);
        String before = Due.everything(bus);
        Due.is("ask() of " + text, bus.ask(), -100 - due);
        Due.same("ask() of " + text, Due.everything(bus), before);
    }

    /** Puts each sign at each place of a good text, and asks a reader of another kind what is due. */
    private static void everySignAtEveryPlace() {
        String good = "1>2w13=45;0>3r1;3>0r9;2>1w0=7";
        for (int place = 0; place < good.length(); place++) {
            for (char sign = '!'; sign < 128; sign++) {
                String text = good.substring(0, place) + sign + good.substring(place + 1);
                TagBus bus = new TagBus();
                Due.type(bus, text);
                int fault = Model.faultOf(text);
                Due.is("ask() of " + text, bus.ask(), fault < 0 ? 4 : -100 - fault);
            }
        }
    }

    /** The digits of a number that are allowed, so far as those ahead of them are. */
    private static int allowedDigits(String digits, int most) {
        if (digits.length() < 2 || digits.charAt(0) == '0' || Integer.parseInt(digits.substring(0, 2)) > most) {
            return 1;
        }
        return 2;
    }

    private static void number(String ahead, String digits, String behind, int most) {
        TagBus bus = new TagBus();
        String text = ahead + digits + behind;
        Due.type(bus, text);
        int allowed = allowedDigits(digits, most);
        boolean good = allowed == digits.length();
        Due.is("ask() of " + text, bus.ask(), good ? 1 : -100 - ahead.length() - allowed);
        int told = good ? Integer.parseInt(digits) : TagBus.UNKNOWN;
        Due.is("the number of " + text, bus.question(0, most == 15 ? 2 : 3), told);
    }

    // "a digit by which an address would be more than 15 is not allowed", "without a zero in front"
    private static void everyAddress() {
        for (int address = 0; address <= 199; address++) {
            number("3>2r", "" + address, "", 15);
            number("3>2w", "" + address, "=7", 15);
            number("3>2r", "0" + address, "", 15);
            number("3>2w", "0" + address, "=7", 15);
        }
    }

    // "Addresses (0 to 15) and values (0 to 99) are told by one or two digits"
    private static void everyValue() {
        for (int value = 0; value <= 999; value++) {
            number("0>1w15=", "" + value, "", 99);
            number("0>1w0=", "0" + value, "", 99);
        }
    }

    // "A question is a master (0 to 3), ">", a target (0 to 3)"
    private static void everyMasterAndTarget() {
        for (int master = 0; master <= 9; master++) {
            for (int target = 0; target <= 9; target++) {
                TagBus bus = new TagBus();
                Due.type(bus, master + ">" + target + "r0");
                Due.is("ask() of " + master + ">" + target, bus.ask(), master > 3 ? -100 : target > 3 ? -102 : 1);
                fault(master + "0>" + target + "r0", master > 3 ? 0 : 1);
                fault("0>" + target + "0r0", target > 3 ? 2 : 3);
            }
        }
    }

    // "A text of questions is one or more questions with ";" between two."
    private static void oneOrMoreQuestions() {
        StringBuilder text = new StringBuilder();
        for (int count = 1; count <= 10; count++) {
            text.append(count > 1 ? ";" : "").append(count % 4).append(">0r1");
            TagBus bus = new TagBus();
            Due.type(bus, text.toString());
            Due.is("ask() of " + text, bus.ask(), count);
            Due.is("count(4) of " + text, bus.count(4), count);
            fault(text + ";", text.length() + 1);
            fault(";" + text, 0);
            if (text.length() < 59) {
                fault(text + ";;", text.length() + 1);
                fault(text + ">0r0", text.length());
            }
        }
        // Behind the address 1 a digit may come, behind two digits none.
        fault("0>0r15;0>0r15" + "0", 13);
        fault("0>0r1" + "0>0r0", 6);
    }

    private static void asking() {
        TagBus bus = new TagBus();
        Due.type(bus, "1>2w3=45;0>3r1;1>0r9;1>1w0=7");
        bus.read(0, 0, 0);
        bus.pass(1);
        Due.is("ask()", bus.ask(), 4);
        Due.is("count(11)", bus.count(11), 3);
        Due.is("count(4)", bus.count(4), 5);
        Due.is("row(1, 0)", bus.row(1, 0), 1);
        Due.is("row(1, 1)", bus.row(1, 1), 3);
        Due.is("row(1, 2)", bus.row(1, 2), 4);
        Due.is("row(0, 0)", bus.row(0, 0), 2);
        Due.is("question(4, 3)", bus.question(4, 3), 7);
        Due.is("question(3, 3)", bus.question(3, 3), TagBus.NONE);
        Due.is("ask() once more, the text stays", bus.ask(), 4);
        Due.is("row(1, 5)", bus.row(1, 5), 8);
        Due.is("undo() takes all of one ask() back", bus.undo(), 3);
        Due.is("count(4)", bus.count(4), 5);
        Due.is("undo()", bus.undo(), 2);
        Due.is("count(4)", bus.count(4), 1);
        Due.is("count(12)", bus.count(12), 28);
        bus.pass(30);
        Due.is("ask()", bus.ask(), 4);
        bus.pass(40);
        // The time of a question begins with the tick in which it was put, not with that in which the bus began.
        Due.is("question(3, 7)", bus.question(3, 7), 6);
        Due.is("question(1, 7)", bus.question(1, 7), 7);
    }

    /** The row of master 3 is full, and the text would put one more question into it. */
    private static void fillAndType(TagBus bus) {
        Due.type(bus, "3>0r0;3>0r0;3>0r0;2>0r0;3>0r0;3>0r0;3>0r0");
        Due.is("ask() of six and one", bus.ask(), 7);
        Due.is("master(3, 0)", bus.master(3, 0), 6);
        Due.type(bus, "0>0r0;3>0r0");
    }

    private static void fullRows() {
        Consumer<TagBus> refused = bus -> Due.is("ask()", bus.ask(), TagBus.FULL);
        Due.same("ask()", Due.stateBehind(TextsTest::fillAndType, refused), Due.stateBehind(TextsTest::fillAndType));
        TagBus bus = new TagBus();
        fillAndType(bus);
        refused.accept(bus);
        Due.is("count(11)", bus.count(11), 1);
        Due.is("count(12)", bus.count(12), 11);
        Due.type(bus, "0>0r0;2>0r0");
        Due.is("ask()", bus.ask(), 2);
        bus = new TagBus();
        Due.type(bus, "0>0r0;0>0r0;0>0r0;0>0r0;0>0r0;0>0r0;0>0r0");
        Due.is("ask() of seven", bus.ask(), TagBus.FULL);
        Due.type(bus, "0>0r0;0>0r0;0>0r0;0>0r0;0>0r0;0>0r0;1>0r0;1>0r0;1>0r0;1>0r0");
        Due.is("count(12)", bus.count(12), 59);
        Due.is("ask() of ten", bus.ask(), 10);
        Due.is("row(1, 3)", bus.row(1, 3), 9);
        bus.undo();
        bus.type('5');
        Due.is("ask() of ten with 60 signs: 05", bus.ask(), -159);
    }
}
