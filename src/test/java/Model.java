import java.util.ArrayDeque;
import java.util.ArrayList;
import java.util.Comparator;
import java.util.Deque;
import java.util.HashMap;
import java.util.List;
import java.util.Map;
import java.util.TreeSet;
import java.util.regex.Matcher;
import java.util.regex.Pattern;

/** The document once more, written another way: with lists, copies, and as little kept as can be. */
final class Model {
    static final int UNKNOWN = -1;
    static final int BAD = -2;
    static final int FULL = -3;
    static final int NOT_POSSIBLE = -4;
    static final int NONE = -5;

    private static final String ADDRESS = "(0|1[0-5]?|[2-9])";
    private static final String QUESTION = "[0-3]>[0-3](r" + ADDRESS + "|w" + ADDRESS + "=(0|[1-9][0-9]?))";
    private static final Pattern TEXT = Pattern.compile(QUESTION + "(;" + QUESTION + ")*");

    enum Where { ROW, TARGET, DONE, ANSWERED, WITHDRAWN }

    static final class Q {
        int number;
        int master;
        int target;
        int address;
        Integer value;
        Where where = Where.ROW;
        Integer tag;
        Integer answer;
        int put;
        int came;
        int due;
        int finished;
        Integer gone;
        int refused;
    }

    static final class State {
        int tick;
        int[] settings = {4, 0, 12};
        int[][] numbers = {{2, 3, 0}, {2, 3, 0}, {2, 3, 0}, {2, 3, 0}};
        int[][] cells = new int[4][16];
        int[] share = {2, 2, 2, 2};
        int[] refusals = new int[4];
        int[] notBefore = new int[4];
        int[] waited = new int[4];
        List<Q> all = new ArrayList<>();
        int turnOfTarget;
        int turnOfMaster;
        int clock;
        // "A", "Q" or "R" for each trip, "-" for a tick without one.
        StringBuilder trips = new StringBuilder();
        int ahead;

        State copy() {
            State s = new State();
            s.tick = tick;
            s.settings = settings.clone();
            for (int i = 0; i < 4; i++) {
                s.numbers[i] = numbers[i].clone();
                s.cells[i] = cells[i].clone();
            }
            s.share = share.clone();
            s.refusals = refusals.clone();
            s.notBefore = notBefore.clone();
            s.waited = waited.clone();
            for (Q q : all) {
                Q c = new Q();
                c.number = q.number;
                c.master = q.master;
                c.target = q.target;
                c.address = q.address;
                c.value = q.value;
                c.where = q.where;
                c.tag = q.tag;
                c.answer = q.answer;
                c.put = q.put;
                c.came = q.came;
                c.due = q.due;
                c.finished = q.finished;
                c.gone = q.gone;
                c.refused = q.refused;
                s.all.add(c);
            }
            s.turnOfTarget = turnOfTarget;
            s.turnOfMaster = turnOfMaster;
            s.clock = clock;
            s.trips.append(trips);
            s.ahead = ahead;
            return s;
        }

        List<Q> row(int master) {
            List<Q> row = new ArrayList<>();
            for (Q q : all) {
                if (q.master == master && q.where == Where.ROW) {
                    row.add(q);
                }
            }
            return row;
        }

        List<Q> inside(int target) {
            List<Q> inside = new ArrayList<>();
            for (Q q : all) {
                if (q.target == target && (q.where == Where.TARGET || q.where == Where.DONE)) {
                    inside.add(q);
                }
            }
            inside.sort(Comparator.comparingInt(q -> q.came));
            return inside;
        }

        Map<Integer, Q> lent() {
            Map<Integer, Q> lent = new HashMap<>();
            for (Q q : all) {
                if (q.tag != null) {
                    lent.put(q.tag, q);
                }
            }
            return lent;
        }

        TreeSet<Integer> free() {
            TreeSet<Integer> free = new TreeSet<>();
            for (int i = 0; i < settings[0]; i++) {
                free.add(i);
            }
            free.removeAll(lent().keySet());
            return free;
        }

        int holds(int master) {
            int holds = 0;
            for (Q q : lent().values()) {
                holds += q.master == master ? 1 : 0;
            }
            return holds;
        }

        Q answerOf(int target) {
            List<Q> inside = inside(target);
            if (numbers[target][2] == 0) {
                return !inside.isEmpty() && inside.get(0).where == Where.DONE ? inside.get(0) : null;
            }
            inside.removeIf(q -> q.where != Where.DONE);
            inside.sort(Comparator.comparingInt(q -> q.finished));
            return inside.isEmpty() ? null : inside.get(0);
        }

        List<Integer> cycle(int from) {
            return List.of(from % 4, (from + 1) % 4, (from + 2) % 4, (from + 3) % 4);
        }

        Q chosenAnswer() {
            for (int target : cycle(turnOfTarget)) {
                if (answerOf(target) != null) {
                    return answerOf(target);
                }
            }
            return null;
        }

        Q chosenQuestion() {
            List<Integer> can = new ArrayList<>();
            for (int master : cycle(turnOfMaster)) {
                if (!row(master).isEmpty() && tick >= notBefore[master] && !free().isEmpty()
                        && holds(master) < share[master]) {
                    can.add(master);
                }
            }
            List<Integer> late = new ArrayList<>(can);
            late.removeIf(master -> waited[master] < settings[2]);
            late.sort(Comparator.comparingInt((Integer master) -> -waited[master]).thenComparingInt(master -> master));
            late.addAll(can);
            return late.isEmpty() ? null : row(late.get(0)).get(0);
        }

        /** One tick; the kind of its trip and the question of it, or "-". */
        String step() {
            for (int target = 0; target < 4; target++) {
                for (Q q : inside(target)) {
                    if (q.where == Where.TARGET && q.due == tick) {
                        q.where = Where.DONE;
                        q.finished = clock++;
                        q.answer = cells[target][q.address];
                        cells[target][q.address] = q.value == null ? q.answer : q.value;
                    }
                }
            }
            Q answer = chosenAnswer();
            Q question = chosenQuestion();
            boolean answerIsFirst = settings[1] == 0 || settings[1] == 2 && "QR".indexOf(latest()) >= 0;
            String trip = "-";
            if (answer != null && (answerIsFirst || question == null)) {
                turnOfTarget = (answer.target + 1) % 4;
                ahead += inside(answer.target).get(0) == answer ? 0 : 1;
                answer.where = Where.ANSWERED;
                answer.tag = null;
                answer.gone = tick;
                trip = "A" + answer.number;
            } else if (question != null) {
                turnOfMaster = (question.master + 1) % 4;
                trip = send(question) + question.number;
            }
            for (int master = 0; master < 4; master++) {
                boolean sent = trip.startsWith("Q") && question.master == master;
                waited[master] = row(master).isEmpty() || sent ? 0 : waited[master] + 1;
            }
            trips.append(trip.charAt(0));
            tick++;
            return trip;
        }

        /** The kind of the latest trip, "-" without one. */
        private char latest() {
            int place = trips.length() - 1;
            while (place > 0 && trips.charAt(place) == '-') {
                place--;
            }
            return place < 0 ? '-' : trips.charAt(place);
        }

        private String send(Q question) {
            int master = question.master;
            if (inside(question.target).size() >= numbers[question.target][0]) {
                question.refused++;
                refusals[master]++;
                notBefore[master] = tick + 1 + (int) Math.min(16, Math.pow(2, refusals[master]));
                return "R";
            }
            question.tag = free().first();
            question.where = Where.TARGET;
            question.came = clock++;
            question.due = tick + numbers[question.target][1] + question.address % 4;
            refusals[master] = 0;
            return "Q";
        }

        int made(char kind) {
            return (int) trips.chars().filter(c -> c == kind).count();
        }
    }

    State now = new State();
    private final Deque<State> past = new ArrayDeque<>();
    private State kept;
    private String text = "";

    static int faultOf(String text) {
        for (int end = 1; end <= text.length(); end++) {
            Matcher m = TEXT.matcher(text.substring(0, end));
            if (!m.matches() && !m.hitEnd()) {
                return end - 1;
            }
        }
        return TEXT.matcher(text).matches() ? -1 : text.length();
    }

    private void record() {
        past.addLast(now.copy());
        if (past.size() > 4) {
            past.removeFirst();
        }
    }

    private static boolean in(int value, int least, int most) {
        return least <= value && value <= most;
    }

    int set(int what, int value) {
        if (!in(what, 0, 2) || !in(value, what == 1 ? 0 : 1, what == 0 ? 8 : what == 1 ? 2 : 50)) {
            return BAD;
        }
        if (what == 0 && now.lent().keySet().stream().anyMatch(tag -> tag >= value)) {
            return NOT_POSSIBLE;
        }
        int was = now.settings[what];
        if (was == value) {
            return NONE;
        }
        record();
        now.settings[what] = value;
        return was;
    }

    int setShare(int master, int share) {
        if (!in(master, 0, 3)) {
            return UNKNOWN;
        }
        if (!in(share, 1, 8)) {
            return BAD;
        }
        int was = now.share[master];
        if (was == share) {
            return NONE;
        }
        record();
        now.share[master] = share;
        return was;
    }

    int setTarget(int target, int what, int value) {
        if (!in(target, 0, 3)) {
            return UNKNOWN;
        }
        if (!in(what, 0, 2) || !in(value, what == 2 ? 0 : 1, what == 0 ? 4 : what == 1 ? 9 : 1)) {
            return BAD;
        }
        int was = now.numbers[target][what];
        if (was == value) {
            return NONE;
        }
        record();
        now.numbers[target][what] = value;
        return was;
    }

    int setCell(int target, int address, int value) {
        if (!in(target, 0, 3)) {
            return UNKNOWN;
        }
        if (!in(address, 0, 15) || !in(value, 0, 99)) {
            return BAD;
        }
        int was = now.cells[target][address];
        if (was == value) {
            return NONE;
        }
        record();
        now.cells[target][address] = value;
        return was;
    }

    int put(int master, int target, int address, Integer value) {
        if (!in(master, 0, 3) || !in(target, 0, 3)) {
            return UNKNOWN;
        }
        if (!in(address, 0, 15) || value != null && !in(value, 0, 99)) {
            return BAD;
        }
        if (now.row(master).size() >= 6 || now.all.size() >= 200) {
            return FULL;
        }
        record();
        return add(master, target, address, value);
    }

    private int add(int master, int target, int address, Integer value) {
        Q q = new Q();
        q.number = now.all.size();
        q.master = master;
        q.target = target;
        q.address = address;
        q.value = value;
        q.put = now.tick;
        now.all.add(q);
        return q.number;
    }

    int ask() {
        int fault = faultOf(text);
        if (fault >= 0) {
            return -100 - fault;
        }
        String[] parts = text.split(";");
        int[] more = new int[4];
        for (String part : parts) {
            more[part.charAt(0) - '0']++;
        }
        boolean full = now.all.size() + parts.length > 200;
        for (int master = 0; master < 4; master++) {
            full |= now.row(master).size() + more[master] > 6;
        }
        if (full) {
            return FULL;
        }
        record();
        for (String part : parts) {
            String[] sides = part.substring(4).split("=");
            add(part.charAt(0) - '0', part.charAt(2) - '0', Integer.parseInt(sides[0]),
                    sides.length > 1 ? Integer.valueOf(sides[1]) : null);
        }
        return parts.length;
    }

    int withdraw(int master) {
        if (!in(master, 0, 3)) {
            return UNKNOWN;
        }
        if (now.row(master).isEmpty()) {
            return NONE;
        }
        record();
        List<Q> row = now.row(master);
        Q last = row.get(row.size() - 1);
        last.where = Where.WITHDRAWN;
        if (row.size() == 1) {
            now.waited[master] = 0;
        }
        return last.number;
    }

    int pass(int ticks) {
        if (!in(ticks, 1, 99)) {
            return BAD;
        }
        if (now.tick + ticks > 9999) {
            return FULL;
        }
        record();
        int trips = 0;
        for (int i = 0; i < ticks; i++) {
            trips += now.step().equals("-") ? 0 : 1;
        }
        return trips;
    }

    int type(char sign) {
        if (text.length() == 60) {
            return FULL;
        }
        text += sign;
        return text.length();
    }

    int clearText() {
        int length = text.length();
        text = "";
        return length;
    }

    int undo() {
        if (past.isEmpty()) {
            return NONE;
        }
        now = past.removeLast();
        return past.size();
    }

    int keep() {
        kept = now.copy();
        return now.tick;
    }

    int restore() {
        if (kept == null) {
            return NONE;
        }
        record();
        now = kept.copy();
        return now.tick;
    }

    private static int told(Integer value) {
        return value == null ? NONE : value;
    }

    int question(int number, int what) {
        if (!in(number, 0, now.all.size() - 1)) {
            return UNKNOWN;
        }
        if (!in(what, 0, 8)) {
            return BAD;
        }
        Q q = now.all.get(number);
        Integer took = q.gone == null ? null : q.gone - q.put;
        return new int[] {q.master, q.target, q.address, told(q.value), q.where.ordinal(), told(q.tag),
            told(q.answer), told(took), q.refused}[what];
    }

    int tag(int tag) {
        if (!in(tag, 0, now.settings[0] - 1)) {
            return UNKNOWN;
        }
        Q q = now.lent().get(tag);
        return q == null ? NONE : q.number;
    }

    int master(int master, int what) {
        if (!in(master, 0, 3)) {
            return UNKNOWN;
        }
        if (!in(what, 0, 8)) {
            return BAD;
        }
        int answered = 0;
        int longest = NONE;
        for (Q q : now.all) {
            if (q.master == master && q.gone != null) {
                answered++;
                longest = Math.max(longest, q.gone - q.put);
            }
        }
        int until = now.tick < now.notBefore[master] ? now.notBefore[master] - now.tick : 0;
        return new int[] {now.row(master).size(), now.share[master], now.holds(master), now.refusals[master], until,
            now.waited[master], answered, longest, now.waited[master] >= now.settings[2] ? 1 : 0}[what];
    }

    int row(int master, int place) {
        if (!in(master, 0, 3)) {
            return UNKNOWN;
        }
        if (place < 0) {
            return BAD;
        }
        return place < now.row(master).size() ? now.row(master).get(place).number : NONE;
    }

    int target(int target, int what) {
        if (!in(target, 0, 3)) {
            return UNKNOWN;
        }
        if (!in(what, 0, 5)) {
            return BAD;
        }
        if (what < 3) {
            return now.numbers[target][what];
        }
        List<Q> inside = now.inside(target);
        if (what == 3) {
            return inside.size();
        }
        if (what == 4) {
            return (int) inside.stream().filter(q -> q.where == Where.DONE).count();
        }
        Q answer = now.answerOf(target);
        return answer == null ? NONE : answer.number;
    }

    int cell(int target, int address) {
        if (!in(target, 0, 3)) {
            return UNKNOWN;
        }
        return in(address, 0, 15) ? now.cells[target][address] : BAD;
    }

    int next(int what) {
        if (!in(what, 0, 1)) {
            return BAD;
        }
        String trip = now.copy().step();
        if (trip.equals("-")) {
            return NONE;
        }
        return what == 0 ? Integer.parseInt(trip.substring(1)) : "QAR".indexOf(trip.charAt(0));
    }

    int answeredIn(int number) {
        if (!in(number, 0, now.all.size() - 1)) {
            return UNKNOWN;
        }
        Where where = now.all.get(number).where;
        if (where == Where.ANSWERED || where == Where.WITHDRAWN) {
            return NOT_POSSIBLE;
        }
        State later = now.copy();
        for (int ticks = 1; ticks <= 999; ticks++) {
            later.step();
            if (later.all.get(number).where == Where.ANSWERED) {
                return ticks;
            }
        }
        return NONE;
    }

    int count(int what) {
        if (!in(what, 0, 12)) {
            return BAD;
        }
        return new int[] {now.tick, now.settings[0], now.settings[1], now.settings[2], now.all.size(),
            now.free().size(), now.made('A'), now.made('Q'), now.made('R'), now.made('-'), now.ahead, past.size(),
            text.length()}[what];
    }
}
