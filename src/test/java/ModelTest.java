/** Long runs of mixed calls, each answer compared with that of the model. */
public final class ModelTest {
    private static final int RUNS = 600;
    private static final int CALLS = 512;
    // Clearing, typing three questions, and asking.
    private static final int LONGEST_STEP = 31;

    private long seed;

    public static void main(String[] args) {
        for (int run = 1; run <= RUNS; run++) {
            new ModelTest(run).compare(run);
        }
        Due.end();
    }

    private ModelTest(int run) {
        seed = run * 7919L + 17;
    }

    // The same numbers in each run of the test.
    private int below(int bound) {
        seed = seed * 6364136223846793005L + 1442695040888963407L;
        return (int) ((seed >>> 33) % bound);
    }

    /** Mostly a number from least to most, now and then one just outside. */
    private int around(int least, int most) {
        int place = below(24);
        return place == 0 ? least - 1 : place == 1 ? most + 1 : least + below(most - least + 1);
    }

    private void compare(int run) {
        TagBus bus = new TagBus();
        Model model = new Model();
        int eager = 1 + run % 6;
        int calls = begin(run, bus, model);
        while (calls <= CALLS - LONGEST_STEP) {
            int kind = below(30);
            if (kind < 2 * eager) {
                calls += putOrAsk(run, bus, model);
            } else if (kind < 2 * eager + 6) {
                int ticks = below(12) == 0 ? around(1, 99) : 1 + below(4);
                same(run, "pass(" + ticks + ")", bus.pass(ticks), model.pass(ticks));
                calls++;
            } else if (kind < 2 * eager + 9) {
                change(run, bus, model);
                calls++;
            } else {
                tell(run, bus, model);
                calls++;
            }
        }
    }

    /** Brings both to a bound, in some of the runs; tells how many calls that took. */
    private int begin(int run, TagBus bus, Model model) {
        switch (run % 10) {
            case 1: return manyTicks(run, bus, model);
            case 3: return manyQuestions(run, bus, model);
            case 5:
            case 6: return narrow(run, bus, model);
            case 7:
            case 8: return wide(run, bus, model);
            default: return 0;
        }
    }

    private int manyTicks(int run, TagBus bus, Model model) {
        for (int i = 0; i < 100; i++) {
            same(run, "pass(99)", bus.pass(99), model.pass(99));
        }
        return 100;
    }

    private int manyQuestions(int run, TagBus bus, Model model) {
        for (int i = 0; i < 190; i++) {
            int master = i % 4;
            same(run, "read(" + master + ", 0, 0)", bus.read(master, 0, 0), model.put(master, 0, 0, null));
            if (i % 12 == 11) {
                same(run, "pass(20)", bus.pass(20), model.pass(20));
            }
        }
        return 190 + 190 / 12;
    }

    private int narrow(int run, TagBus bus, Model model) {
        int tags = 1 + below(2);
        same(run, "set(0, " + tags + ")", bus.set(0, tags), model.set(0, tags));
        same(run, "set(2, 1)", bus.set(2, 1), model.set(2, 1));
        for (int i = 0; i < 4; i++) {
            same(run, "setTarget(" + i + ", 0, 1)", bus.setTarget(i, 0, 1), model.setTarget(i, 0, 1));
            same(run, "setTarget(" + i + ", 1, 9)", bus.setTarget(i, 1, 9), model.setTarget(i, 1, 9));
        }
        return 10;
    }

    private int wide(int run, TagBus bus, Model model) {
        int manner = 1 + below(2);
        same(run, "set(0, 8)", bus.set(0, 8), model.set(0, 8));
        same(run, "set(1, " + manner + ")", bus.set(1, manner), model.set(1, manner));
        for (int i = 0; i < 4; i++) {
            int room = 1 + below(4);
            same(run, "setShare(" + i + ", 8)", bus.setShare(i, 8), model.setShare(i, 8));
            same(run, "setTarget(" + i + ", 0, " + room + ")", bus.setTarget(i, 0, room), model.setTarget(i, 0, room));
            same(run, "setTarget(" + i + ", 2, 1)", bus.setTarget(i, 2, 1), model.setTarget(i, 2, 1));
        }
        return 14;
    }

    private void same(int run, String call, int got, int want) {
        Due.is("run " + run + ": " + call, got, want);
    }

    private int putOrAsk(int run, TagBus bus, Model model) {
        int m = around(0, 3);
        int t = below(2) == 0 ? 0 : around(0, 3);
        int a = below(2) == 0 ? below(4) : around(0, 15);
        int v = around(0, 99);
        switch (below(5)) {
            case 0:
                return text(run, bus, model);
            case 1:
            case 2:
                same(run, "read(" + m + ", " + t + ", " + a + ")", bus.read(m, t, a), model.put(m, t, a, null));
                return 1;
            default:
                same(run, "write(" + m + ", " + t + ", " + a + ", " + v + ")", bus.write(m, t, a, v),
                        model.put(m, t, a, v));
                return 1;
        }
    }

    private int text(int run, TagBus bus, Model model) {
        same(run, "clearText()", bus.clearText(), model.clearText());
        StringBuilder text = new StringBuilder();
        for (int left = 1 + below(3); left > 0; left--) {
            text.append(below(4)).append('>').append(below(4));
            text.append(below(2) == 0 ? "r" + below(16) : "w" + below(16) + "=" + below(100));
            text.append(left > 1 ? ";" : "");
        }
        if (below(4) == 0) {
            text.setCharAt(below(text.length()), "0123456789>;=rw x".charAt(below(17)));
        }
        for (char sign : text.toString().toCharArray()) {
            same(run, "type(" + sign + ")", bus.type(sign), model.type(sign));
        }
        same(run, "ask() of " + text, bus.ask(), model.ask());
        return text.length() + 2;
    }

    private void change(int run, TagBus bus, Model model) {
        int what = around(0, 2);
        int m = around(0, 3);
        int value;
        switch (below(12)) {
            case 0:
                value = what == 2 ? around(1, 20) : around(0, what == 0 ? 8 : 2);
                same(run, "set(" + what + ", " + value + ")", bus.set(what, value), model.set(what, value));
                break;
            case 1:
                value = around(1, 8);
                same(run, "setShare(" + m + ", " + value + ")", bus.setShare(m, value), model.setShare(m, value));
                break;
            case 2:
            case 3:
                value = what == 0 ? around(1, 4) : what == 1 ? around(1, 9) : around(0, 1);
                same(run, "setTarget(" + m + ", " + what + ", " + value + ")", bus.setTarget(m, what, value),
                        model.setTarget(m, what, value));
                break;
            case 4:
                value = around(0, 99);
                int a = around(0, 15);
                same(run, "setCell(" + m + ", " + a + ", " + value + ")", bus.setCell(m, a, value),
                        model.setCell(m, a, value));
                break;
            case 5:
            case 6:
                same(run, "withdraw(" + m + ")", bus.withdraw(m), model.withdraw(m));
                break;
            case 7:
                same(run, "keep()", bus.keep(), model.keep());
                break;
            case 8:
                same(run, "restore()", bus.restore(), model.restore());
                break;
            case 9:
                same(run, "clearText()", bus.clearText(), model.clearText());
                break;
            default:
                same(run, "undo()", bus.undo(), model.undo());
        }
    }

    private void tell(int run, TagBus bus, Model model) {
        int what = around(0, 8);
        int i = around(0, 3);
        int number = around(0, Math.max(0, model.now.all.size() - 1));
        switch (below(9)) {
            case 0:
                same(run, "question(" + number + ", " + what + ")", bus.question(number, what),
                        model.question(number, what));
                break;
            case 1:
                int tag = around(0, 7);
                same(run, "tag(" + tag + ")", bus.tag(tag), model.tag(tag));
                break;
            case 2:
                same(run, "master(" + i + ", " + what + ")", bus.master(i, what), model.master(i, what));
                break;
            case 3:
                int place = around(0, 5);
                same(run, "row(" + i + ", " + place + ")", bus.row(i, place), model.row(i, place));
                break;
            case 4:
                what = around(0, 5);
                same(run, "target(" + i + ", " + what + ")", bus.target(i, what), model.target(i, what));
                break;
            case 5:
                int address = around(0, 15);
                same(run, "cell(" + i + ", " + address + ")", bus.cell(i, address), model.cell(i, address));
                break;
            case 6:
                what = around(0, 1);
                same(run, "next(" + what + ")", bus.next(what), model.next(what));
                break;
            case 7:
                same(run, "answeredIn(" + number + ")", bus.answeredIn(number), model.answeredIn(number));
                break;
            default:
                what = around(0, 12);
                same(run, "count(" + what + ")", bus.count(what), model.count(what));
        }
    }
}
