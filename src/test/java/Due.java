import java.util.Arrays;
import java.util.function.Consumer;

/** What the tests share: comparing answers, typing texts, telling everything that a bus tells. */
final class Due {
    private static int wrong = 0;
    private static int seen = 0;

    private Due() {
    }

    static void is(String call, long got, long want) {
        seen++;
        if (got != want) {
            wrong++;
            System.out.println(call + " answered " + got + ", due is " + want);
        }
    }

    static void same(String call, String got, String want) {
        seen++;
        if (!got.equals(want)) {
            wrong++;
            System.out.println(call + " left\n  " + got + "\ndue is\n  " + want);
        }
    }

    static void row(String call, int[] got, int... want) {
        same(call, Arrays.toString(got), Arrays.toString(want));
    }

    static void end() {
        System.out.println(wrong == 0 ? seen + " answers are as due" : wrong + " of " + seen + " answers are not as due");
        if (wrong != 0) {
            System.exit(1);
        }
    }

    static void type(TagBus bus, String text) {
        bus.clearText();
        for (char sign : text.toCharArray()) {
            bus.type(sign);
        }
    }

    /** The next trips, one a tick: the question, plus 1000 for an answer, plus 2000 for a refusal; -5 for none. */
    static int[] trips(TagBus bus, int ticks) {
        int[] trips = new int[ticks];
        for (int i = 0; i < ticks; i++) {
            int moved = bus.next(0);
            int kind = bus.next(1);
            int made = bus.pass(1);
            trips[i] = moved < 0 ? moved : moved + 1000 * kind;
            is("pass(1) behind next(0) = " + moved, made, moved < 0 ? 0 : 1);
        }
        return trips;
    }

    /** All that is told of the state. */
    static String state(TagBus bus) {
        StringBuilder told = new StringBuilder();
        for (int what = 0; what <= 10; what++) {
            told.append(bus.count(what)).append(' ');
        }
        for (int tag = 0; tag <= 8; tag++) {
            told.append(bus.tag(tag)).append(' ');
        }
        for (int i = 0; i < 4; i++) {
            told.append("| m");
            for (int what = 0; what <= 8; what++) {
                told.append(bus.master(i, what)).append(' ');
            }
            for (int place = 0; place <= 6; place++) {
                told.append(bus.row(i, place)).append(' ');
            }
            told.append("t");
            for (int what = 0; what <= 5; what++) {
                told.append(bus.target(i, what)).append(' ');
            }
            for (int address = 0; address < 16; address++) {
                told.append(bus.cell(i, address)).append(' ');
            }
        }
        for (int number = 0; number <= bus.count(4); number++) {
            told.append("| q");
            for (int what = 0; what <= 8; what++) {
                told.append(bus.question(number, what)).append(' ');
            }
            told.append(bus.answeredIn(number)).append(' ');
        }
        return told.append("| n").append(bus.next(0)).append(' ').append(bus.next(1)).toString();
    }

    /** All that is told of a new bus behind these steps: an object is used for 512 calls at most, and this takes some 300. */
    @SafeVarargs
    static String stateBehind(Consumer<TagBus>... steps) {
        TagBus bus = new TagBus();
        for (Consumer<TagBus> step : steps) {
            step.accept(bus);
        }
        return state(bus);
    }

    /** All that is told, with the lengths of the history and of the text. */
    static String everything(TagBus bus) {
        return state(bus) + " | h" + bus.count(11) + " " + bus.count(12);
    }
}
