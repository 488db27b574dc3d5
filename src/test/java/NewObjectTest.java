/** Promise 1. */
public final class NewObjectTest {
    public static void main(String[] args) {
        tellsWhatIsSoAtFirst();
        objectsAreApart();
        Due.end();
    }

    private static void tellsWhatIsSoAtFirst() {
        TagBus bus = new TagBus();
        int[] counts = {0, 4, 0, 12, 0, 4, 0, 0, 0, 0, 0, 0, 0};
        for (int what = 0; what < counts.length; what++) {
            Due.is("count(" + what + ")", bus.count(what), counts[what]);
        }
        int[] ofMaster = {0, 2, 0, 0, 0, 0, 0, TagBus.NONE, 0};
        int[] ofTarget = {2, 3, 0, 0, 0, TagBus.NONE};
        for (int i = 0; i < 4; i++) {
            for (int what = 0; what < ofMaster.length; what++) {
                Due.is("master(" + i + ", " + what + ")", bus.master(i, what), ofMaster[what]);
            }
            Due.is("row(" + i + ", 0)", bus.row(i, 0), TagBus.NONE);
            for (int what = 0; what < ofTarget.length; what++) {
                Due.is("target(" + i + ", " + what + ")", bus.target(i, what), ofTarget[what]);
            }
            for (int address = 0; address < 16; address++) {
                Due.is("cell(" + i + ", " + address + ")", bus.cell(i, address), 0);
            }
            Due.is("tag(" + i + ")", bus.tag(i), TagBus.NONE);
        }
        Due.is("tag(4)", bus.tag(4), TagBus.UNKNOWN);
        Due.is("question(0, 0)", bus.question(0, 0), TagBus.UNKNOWN);
        Due.is("answeredIn(0)", bus.answeredIn(0), TagBus.UNKNOWN);
        Due.is("next(0)", bus.next(0), TagBus.NONE);
        Due.is("undo()", bus.undo(), TagBus.NONE);
        Due.is("restore()", bus.restore(), TagBus.NONE);
        Due.is("clearText()", bus.clearText(), 0);
        Due.is("ask()", bus.ask(), -100);
    }

    private static void objectsAreApart() {
        TagBus one = new TagBus();
        TagBus other = new TagBus();
        String before = Due.everything(other);
        one.set(0, 8);
        one.setShare(0, 8);
        one.setTarget(0, 0, 4);
        one.setCell(0, 0, 9);
        one.type('0');
        one.keep();
        one.write(0, 0, 0, 7);
        one.pass(20);
        Due.same("another object", Due.everything(other), before);
        Due.is("restore()", other.restore(), TagBus.NONE);
    }
}
