/** Promises 2 to 5. */
public final class SettingsTest {
    public static void main(String[] args) {
        tagsMannerAndPatience();
        tagsThatAreLent();
        shares();
        targets();
        cells();
        Due.end();
    }

    private static void tagsMannerAndPatience() {
        int[] first = {4, 0, 12};
        int[] least = {1, 0, 1};
        int[] most = {8, 2, 50};
        for (int what = 0; what < 3; what++) {
            TagBus bus = new TagBus();
            String call = "set(" + what + ", ..)";
            Due.is(call, bus.set(what, least[what] - 1), TagBus.BAD_VALUE);
            Due.is(call, bus.set(what, most[what] + 1), TagBus.BAD_VALUE);
            Due.is(call, bus.set(what, Integer.MIN_VALUE), TagBus.BAD_VALUE);
            Due.is(call, bus.set(what, Integer.MAX_VALUE), TagBus.BAD_VALUE);
            Due.is(call, bus.set(what, first[what]), TagBus.NONE);
            Due.is("count(11)", bus.count(11), 0);
            Due.is(call, bus.set(what, most[what]), first[what]);
            Due.is("count(11)", bus.count(11), 1);
            Due.is("count", bus.count(1 + what), most[what]);
            Due.is(call, bus.set(what, most[what]), TagBus.NONE);
            Due.is(call, bus.set(what, least[what]), most[what] == least[what] ? TagBus.NONE : most[what]);
            Due.is("count", bus.count(1 + what), least[what]);
            for (int other = 0; other < 3; other++) {
                if (other != what) {
                    Due.is("count of another", bus.count(1 + other), first[other]);
                }
            }
            Due.is("undo()", bus.undo(), 1);
            Due.is("count", bus.count(1 + what), most[what]);
        }
        TagBus bus = new TagBus();
        Due.is("set(-1, 1)", bus.set(-1, 1), TagBus.BAD_VALUE);
        Due.is("set(3, 1)", bus.set(3, 1), TagBus.BAD_VALUE);
        Due.is("set(MAX, 1)", bus.set(Integer.MAX_VALUE, 1), TagBus.BAD_VALUE);
        Due.is("set(MIN, 1)", bus.set(Integer.MIN_VALUE, 1), TagBus.BAD_VALUE);
    }

    private static void tagsThatAreLent() {
        TagBus bus = new TagBus();
        bus.read(0, 0, 0);
        bus.read(0, 1, 0);
        bus.pass(2);
        Due.is("tag(1)", bus.tag(1), 1);
        Due.is("set(0, 1)", bus.set(0, 1), TagBus.NOT_POSSIBLE);
        Due.is("set(0, 0)", bus.set(0, 0), TagBus.BAD_VALUE);
        Due.is("set(1, 1)", bus.set(1, 1), 0);
        bus.pass(2);
        Due.is("tag(0) is free", bus.tag(0), TagBus.NONE);
        Due.is("tag(1) is still lent", bus.tag(1), 1);
        Due.is("set(0, 1)", bus.set(0, 1), TagBus.NOT_POSSIBLE);
        Due.is("set(0, 2)", bus.set(0, 2), 4);
        Due.is("tag(2)", bus.tag(2), TagBus.UNKNOWN);
        Due.is("count(5)", bus.count(5), 1);
        bus.pass(1);
        Due.is("set(0, 1)", bus.set(0, 1), 2);
        Due.is("set(0, 8)", bus.set(0, 8), 1);
        Due.is("count(5)", bus.count(5), 8);
        Due.is("tag(7)", bus.tag(7), TagBus.NONE);
    }

    private static void shares() {
        TagBus bus = new TagBus();
        Due.is("setShare(-1, 1)", bus.setShare(-1, 1), TagBus.UNKNOWN);
        Due.is("setShare(4, 1)", bus.setShare(4, 1), TagBus.UNKNOWN);
        Due.is("setShare(4, 0)", bus.setShare(4, 0), TagBus.UNKNOWN);
        Due.is("setShare(MIN, 1)", bus.setShare(Integer.MIN_VALUE, 1), TagBus.UNKNOWN);
        Due.is("setShare(0, 0)", bus.setShare(0, 0), TagBus.BAD_VALUE);
        Due.is("setShare(3, 9)", bus.setShare(3, 9), TagBus.BAD_VALUE);
        Due.is("setShare(0, 2)", bus.setShare(0, 2), TagBus.NONE);
        Due.is("count(11)", bus.count(11), 0);
        Due.is("setShare(0, 1)", bus.setShare(0, 1), 2);
        Due.is("setShare(3, 8)", bus.setShare(3, 8), 2);
        Due.is("setShare(3, 8)", bus.setShare(3, 8), TagBus.NONE);
        Due.is("count(11)", bus.count(11), 2);
        Due.is("master(0, 1)", bus.master(0, 1), 1);
        Due.is("master(1, 1)", bus.master(1, 1), 2);
        Due.is("master(3, 1)", bus.master(3, 1), 8);
        Due.is("undo()", bus.undo(), 1);
        Due.is("master(3, 1)", bus.master(3, 1), 2);
    }

    private static void targets() {
        int[] first = {2, 3, 0};
        int[] least = {1, 1, 0};
        int[] most = {4, 9, 1};
        for (int what = 0; what < 3; what++) {
            TagBus bus = new TagBus();
            String call = "setTarget(3, " + what + ", ..)";
            Due.is(call, bus.setTarget(3, what, least[what] - 1), TagBus.BAD_VALUE);
            Due.is(call, bus.setTarget(3, what, most[what] + 1), TagBus.BAD_VALUE);
            Due.is(call, bus.setTarget(3, what, first[what]), TagBus.NONE);
            Due.is("setTarget(4, ..)", bus.setTarget(4, what, most[what]), TagBus.UNKNOWN);
            Due.is("setTarget(-1, ..)", bus.setTarget(-1, what, most[what] + 1), TagBus.UNKNOWN);
            Due.is("count(11)", bus.count(11), 0);
            Due.is(call, bus.setTarget(3, what, most[what]), first[what]);
            Due.is("target", bus.target(3, what), most[what]);
            Due.is(call, bus.setTarget(3, what, most[what]), TagBus.NONE);
            Due.is(call, bus.setTarget(3, what, least[what]), most[what]);
            Due.is("target", bus.target(3, what), least[what]);
            Due.is("another target", bus.target(2, what), first[what]);
            Due.is("count(11)", bus.count(11), 2);
            Due.is("undo()", bus.undo(), 1);
            Due.is("target", bus.target(3, what), most[what]);
        }
        TagBus bus = new TagBus();
        Due.is("setTarget(0, -1, 1)", bus.setTarget(0, -1, 1), TagBus.BAD_VALUE);
        Due.is("setTarget(0, 3, 1)", bus.setTarget(0, 3, 1), TagBus.BAD_VALUE);
        Due.is("setTarget(4, 3, 1)", bus.setTarget(4, 3, 1), TagBus.UNKNOWN);
        Due.is("setTarget(0, MIN, 1)", bus.setTarget(0, Integer.MIN_VALUE, 1), TagBus.BAD_VALUE);
    }

    private static void cells() {
        TagBus bus = new TagBus();
        Due.is("setCell(-1, 0, 1)", bus.setCell(-1, 0, 1), TagBus.UNKNOWN);
        Due.is("setCell(4, 16, 1)", bus.setCell(4, 16, 1), TagBus.UNKNOWN);
        Due.is("setCell(0, -1, 1)", bus.setCell(0, -1, 1), TagBus.BAD_VALUE);
        Due.is("setCell(0, 16, 1)", bus.setCell(0, 16, 1), TagBus.BAD_VALUE);
        Due.is("setCell(0, 0, -1)", bus.setCell(0, 0, -1), TagBus.BAD_VALUE);
        Due.is("setCell(0, 0, 100)", bus.setCell(0, 0, 100), TagBus.BAD_VALUE);
        Due.is("setCell(0, 0, 0)", bus.setCell(0, 0, 0), TagBus.NONE);
        Due.is("count(11)", bus.count(11), 0);
        Due.is("setCell(0, 0, 99)", bus.setCell(0, 0, 99), 0);
        Due.is("setCell(3, 15, 1)", bus.setCell(3, 15, 1), 0);
        Due.is("setCell(3, 15, 0)", bus.setCell(3, 15, 0), 1);
        Due.is("setCell(3, 15, 7)", bus.setCell(3, 15, 7), 0);
        Due.is("count(11)", bus.count(11), 4);
        Due.is("cell(0, 0)", bus.cell(0, 0), 99);
        Due.is("cell(3, 15)", bus.cell(3, 15), 7);
        Due.is("cell(3, 14)", bus.cell(3, 14), 0);
        Due.is("cell(2, 15)", bus.cell(2, 15), 0);
        Due.is("count(0)", bus.count(0), 0);
        bus.undo();
        Due.is("cell(3, 15)", bus.cell(3, 15), 0);
    }
}
