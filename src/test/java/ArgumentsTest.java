/**
 * Every method with every combination of arguments at the edges of what is allowed: the least and the most, one less,
 * one more, and the farthest ints. The order of the return line is the order of the checks.
 */
public final class ArgumentsTest {
    private static final int MIN = Integer.MIN_VALUE;
    private static final int MAX = Integer.MAX_VALUE;
    private static final int UNKNOWN = TagBus.UNKNOWN;
    private static final int BAD = TagBus.BAD_VALUE;
    private static final int NONE = TagBus.NONE;

    private static final int[] FOUR = {MIN, NONE, -1, 0, 1, 2, 3, 4, 7, MAX};
    private static final int[] ADDRESSES = {MIN, NONE, -1, 0, 15, 16, 99, MAX};
    private static final int[] VALUES = {MIN, NONE, -1, 0, 99, 100, MAX};
    private static final int[] SMALL = {MIN, NONE, -1, 0, 1, 2, 3, 4, 5, 8, 9, 10, 50, 51, MAX};
    private static final int[] WHATS = {MIN, NONE, -1, 0, 1, 2, 3, 4, 5, 6, 7, 8, 9, 10, 12, 13, MAX};

    public static void main(String[] args) {
        set();
        setShare();
        setTarget();
        setCell();
        read();
        write();
        withdraw();
        pass();
        question();
        tag();
        master();
        row();
        target();
        cell();
        next();
        answeredIn();
        count();
        Due.end();
    }

    private static boolean in(int value, int least, int most) {
        return least <= value && value <= most;
    }

    /** An act that is not refused records one state, another one none. */
    private static void recorded(TagBus bus, String call, int due) {
        Due.is("count(11) behind " + call, bus.count(11), due >= 0 ? 1 : 0);
    }

    private static void set() {
        int[] least = {1, 0, 1};
        int[] most = {8, 2, 50};
        int[] first = {4, 0, 12};
        for (int what : FOUR) {
            for (int value : SMALL) {
                TagBus bus = new TagBus();
                String call = "set(" + what + ", " + value + ")";
                int due = !in(what, 0, 2) || !in(value, least[what], most[what]) ? BAD
                        : value == first[what] ? NONE : first[what];
                Due.is(call, bus.set(what, value), due);
                recorded(bus, call, due);
                for (int i = 0; i < 3; i++) {
                    Due.is("count behind " + call, bus.count(1 + i), due >= 0 && i == what ? value : first[i]);
                }
            }
        }
    }

    private static void setShare() {
        for (int master : FOUR) {
            for (int share : SMALL) {
                TagBus bus = new TagBus();
                String call = "setShare(" + master + ", " + share + ")";
                int due = !in(master, 0, 3) ? UNKNOWN : !in(share, 1, 8) ? BAD : share == 2 ? NONE : 2;
                Due.is(call, bus.setShare(master, share), due);
                recorded(bus, call, due);
                for (int i = 0; i < 4; i++) {
                    Due.is("master(" + i + ", 1) behind " + call, bus.master(i, 1), due >= 0 && i == master ? share : 2);
                }
            }
        }
    }

    private static void setTarget() {
        int[] least = {1, 1, 0};
        int[] most = {4, 9, 1};
        int[] first = {2, 3, 0};
        for (int target : FOUR) {
            for (int what : FOUR) {
                for (int value : SMALL) {
                    TagBus bus = new TagBus();
                    String call = "setTarget(" + target + ", " + what + ", " + value + ")";
                    int due = !in(target, 0, 3) ? UNKNOWN
                            : !in(what, 0, 2) || !in(value, least[what], most[what]) ? BAD
                            : value == first[what] ? NONE : first[what];
                    Due.is(call, bus.setTarget(target, what, value), due);
                    recorded(bus, call, due);
                    for (int i = 0; i < 12; i++) {
                        boolean set = due >= 0 && i / 3 == target && i % 3 == what;
                        Due.is("target behind " + call, bus.target(i / 3, i % 3), set ? value : first[i % 3]);
                    }
                }
            }
        }
    }

    private static void setCell() {
        for (int target : FOUR) {
            for (int address : ADDRESSES) {
                for (int value : VALUES) {
                    TagBus bus = new TagBus();
                    String call = "setCell(" + target + ", " + address + ", " + value + ")";
                    int due = !in(target, 0, 3) ? UNKNOWN : !in(address, 0, 15) || !in(value, 0, 99) ? BAD
                            : value == 0 ? NONE : 0;
                    Due.is(call, bus.setCell(target, address, value), due);
                    recorded(bus, call, due);
                    for (int i = 0; i < 64; i++) {
                        boolean set = due >= 0 && i / 16 == target && i % 16 == address;
                        Due.is("cell behind " + call, bus.cell(i / 16, i % 16), set ? value : 0);
                    }
                }
            }
        }
    }

    private static void asked(TagBus bus, String call, int due, int... told) {
        recorded(bus, call, due);
        Due.is("count(4) behind " + call, bus.count(4), due == 0 ? 1 : 0);
        for (int what = 0; what < told.length; what++) {
            Due.is("question(0, " + what + ") behind " + call, bus.question(0, what), due == 0 ? told[what] : UNKNOWN);
        }
        for (int i = 0; i < 4; i++) {
            Due.is("row(" + i + ", 0) behind " + call, bus.row(i, 0), due == 0 && i == told[0] ? 0 : NONE);
        }
    }

    private static void read() {
        for (int master : FOUR) {
            for (int target : FOUR) {
                for (int address : ADDRESSES) {
                    TagBus bus = new TagBus();
                    String call = "read(" + master + ", " + target + ", " + address + ")";
                    int due = !in(master, 0, 3) || !in(target, 0, 3) ? UNKNOWN : !in(address, 0, 15) ? BAD : 0;
                    Due.is(call, bus.read(master, target, address), due);
                    asked(bus, call, due, master, target, address, NONE);
                }
            }
        }
    }

    private static void write() {
        for (int master : FOUR) {
            for (int target : FOUR) {
                for (int address : ADDRESSES) {
                    for (int value : VALUES) {
                        TagBus bus = new TagBus();
                        String call = "write(" + master + ", " + target + ", " + address + ", " + value + ")";
                        int due = !in(master, 0, 3) || !in(target, 0, 3) ? UNKNOWN
                                : !in(address, 0, 15) || !in(value, 0, 99) ? BAD : 0;
                        Due.is(call, bus.write(master, target, address, value), due);
                        asked(bus, call, due, master, target, address, value);
                    }
                }
            }
        }
    }

    private static void withdraw() {
        for (int master : FOUR) {
            TagBus bus = new TagBus();
            bus.read(3, 0, 0);
            bus.read(0, 0, 0);
            int due = !in(master, 0, 3) ? UNKNOWN : master == 0 ? 1 : master == 3 ? 0 : NONE;
            Due.is("withdraw(" + master + ")", bus.withdraw(master), due);
            Due.is("count(11) behind withdraw(" + master + ")", bus.count(11), due >= 0 ? 3 : 2);
            Due.is("master(0, 0) behind withdraw(" + master + ")", bus.master(0, 0), master == 0 ? 0 : 1);
            Due.is("master(3, 0) behind withdraw(" + master + ")", bus.master(3, 0), master == 3 ? 0 : 1);
        }
    }

    private static void pass() {
        for (int ticks : new int[] {MIN, -100, NONE, -1, 0, 1, 2, 98, 99, 100, 9999, 10000, MAX}) {
            TagBus bus = new TagBus();
            int due = in(ticks, 1, 99) ? 0 : BAD;
            Due.is("pass(" + ticks + ")", bus.pass(ticks), due);
            recorded(bus, "pass(" + ticks + ")", due);
            Due.is("count(0) behind pass(" + ticks + ")", bus.count(0), due == 0 ? ticks : 0);
            Due.is("count(9) behind pass(" + ticks + ")", bus.count(9), due == 0 ? ticks : 0);
        }
    }

    /** A bus with the questions 0 (which master 3 wrote) and 1 (which master 0 reads). */
    private static TagBus two() {
        TagBus bus = new TagBus();
        bus.write(3, 2, 15, 99);
        bus.read(0, 1, 1);
        return bus;
    }

    private static void question() {
        int[][] told = {{3, 2, 15, 99, 0, NONE, NONE, NONE, 0}, {0, 1, 1, NONE, 0, NONE, NONE, NONE, 0}};
        TagBus bus = two();
        for (int number : new int[] {MIN, NONE, -1, 0, 1, 2, 199, 200, MAX}) {
            for (int what : WHATS) {
                int due = !in(number, 0, 1) ? UNKNOWN : !in(what, 0, 8) ? BAD : told[number][what];
                Due.is("question(" + number + ", " + what + ")", bus.question(number, what), due);
            }
        }
    }

    private static void tag() {
        for (int tags = 1; tags <= 8; tags++) {
            TagBus bus = two();
            bus.set(0, tags);
            bus.pass(1);
            for (int tag : new int[] {MIN, NONE, -1, 0, 1, 2, 3, 4, 5, 6, 7, 8, 9, MAX}) {
                int due = !in(tag, 0, tags - 1) ? UNKNOWN : tag == 0 ? 1 : NONE;
                Due.is("tag(" + tag + ") of " + tags, bus.tag(tag), due);
            }
        }
    }

    private static void master() {
        TagBus bus = two();
        for (int master : FOUR) {
            for (int what : WHATS) {
                int[] told = {master == 0 || master == 3 ? 1 : 0, 2, 0, 0, 0, 0, 0, NONE, 0};
                int due = !in(master, 0, 3) ? UNKNOWN : !in(what, 0, 8) ? BAD : told[what];
                Due.is("master(" + master + ", " + what + ")", bus.master(master, what), due);
            }
        }
    }

    private static void row() {
        TagBus bus = two();
        for (int master : FOUR) {
            for (int place : WHATS) {
                int due = !in(master, 0, 3) ? UNKNOWN : place < 0 ? BAD
                        : place > 0 ? NONE : master == 3 ? 0 : master == 0 ? 1 : NONE;
                Due.is("row(" + master + ", " + place + ")", bus.row(master, place), due);
            }
        }
    }

    private static void target() {
        int[] told = {2, 3, 0, 0, 0, NONE};
        TagBus bus = two();
        for (int target : FOUR) {
            for (int what : WHATS) {
                int due = !in(target, 0, 3) ? UNKNOWN : !in(what, 0, 5) ? BAD : told[what];
                Due.is("target(" + target + ", " + what + ")", bus.target(target, what), due);
            }
        }
    }

    private static void cell() {
        TagBus bus = two();
        bus.setCell(3, 15, 99);
        bus.setCell(0, 0, 98);
        for (int target : FOUR) {
            for (int address : ADDRESSES) {
                int due = !in(target, 0, 3) ? UNKNOWN : !in(address, 0, 15) ? BAD
                        : target == 3 && address == 15 ? 99 : target == 0 && address == 0 ? 98 : 0;
                Due.is("cell(" + target + ", " + address + ")", bus.cell(target, address), due);
            }
        }
    }

    private static void next() {
        for (int what : WHATS) {
            Due.is("next(" + what + ")", two().next(what), what == 0 ? 1 : what == 1 ? 0 : BAD);
            Due.is("next(" + what + ") without a question", new TagBus().next(what), in(what, 0, 1) ? NONE : BAD);
        }
    }

    private static void answeredIn() {
        for (int number : new int[] {MIN, NONE, -1, 0, 1, 2, 199, 200, MAX}) {
            // Question 1 goes in the tick 0 and is done in the tick 4; question 0 goes in 1 and is done in 7.
            int due = number == 0 ? 8 : number == 1 ? 5 : UNKNOWN;
            Due.is("answeredIn(" + number + ")", two().answeredIn(number), due);
            Due.is("answeredIn(" + number + ") without a question", new TagBus().answeredIn(number), UNKNOWN);
        }
    }

    private static void count() {
        int[] told = {0, 4, 0, 12, 2, 4, 0, 0, 0, 0, 0, 2, 0};
        TagBus bus = two();
        for (int what : new int[] {MIN, NONE, -1, 0, 1, 2, 3, 4, 5, 6, 7, 8, 9, 10, 11, 12, 13, 14, MAX}) {
            Due.is("count(" + what + ")", bus.count(what), in(what, 0, 12) ? told[what] : BAD);
        }
    }
}
