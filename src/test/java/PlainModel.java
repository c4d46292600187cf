import java.util.ArrayList;
import java.util.List;
import java.util.TreeSet;
import java.util.function.IntPredicate;
import java.util.regex.Matcher;
import java.util.regex.Pattern;

/**
 * The document once more, word by word and without any thought of speed, for comparing with RowVotes.
 * Nothing of RowVotes is used here but its constants.
 */
final class PlainModel {
    static final int INVALID = RowVotes.INVALID_ARGUMENT;
    static final int IMPOSSIBLE = RowVotes.NOT_POSSIBLE;
    static final int LIMIT = RowVotes.LIMIT_REACHED;
    static final int NONE = RowVotes.NOT_FOUND;

    private static final int[][] SETTING_RANGES =
        {{1, 10}, {4, 16}, {0, 9}, {1, 255}, {0, 255}, {0, 20}, {0, 20}, {0, 100}};

    static final class Thing {
        int top, bottom, width, brightness;
        long position, speed;

        Thing copy() {
            Thing t = new Thing();
            t.top = top;
            t.bottom = bottom;
            t.width = width;
            t.brightness = brightness;
            t.position = position;
            t.speed = speed;
            return t;
        }
    }

    /** Its pixels never change; a blinded row is null. */
    static final class Frame {
        int time;
        int[][] pixels;
    }

    static final class State {
        int[] settings = {6, 12, 1, 40, 20, 0, 0, 50};
        List<Thing> things = new ArrayList<>();
        List<Frame> frames = new ArrayList<>();
        TreeSet<Integer> blinded = new TreeSet<>();
        int time = 0;
        int taken = 0;
        int[] agreed = new int[10];
        int[] dissented = new int[10];

        State copy() {
            State s = new State();
            s.settings = settings.clone();
            for (Thing t : things) {
                s.things.add(t.copy());
            }
            s.frames.addAll(frames);
            s.blinded.addAll(blinded);
            s.time = time;
            s.taken = taken;
            s.agreed = agreed.clone();
            s.dissented = dissented.clone();
            return s;
        }

        int rows() {
            return settings[0];
        }

        int columns() {
            return settings[1];
        }

        int delay() {
            return settings[2];
        }

        boolean dark(int t) {
            return settings[5] != 0 && t % settings[5] < settings[6];
        }

        int shown(int r, int c, int t) {
            int brightness = settings[4];
            for (Thing thing : things) {
                long at = thing.position + thing.speed * t;
                boolean inRow = thing.top <= r && r <= thing.bottom;
                if (inRow && at <= 100 * c + 50 && at + thing.width > 100 * c + 50) {
                    brightness = thing.brightness;
                }
            }
            return dark(t) ? brightness * settings[7] / 100 : brightness;
        }

        Frame frameAt(int s) {
            Frame f = new Frame();
            f.time = s;
            f.pixels = new int[rows()][];
            for (int r = 0; r < rows(); r++) {
                if (!blinded.contains(r)) {
                    f.pixels[r] = new int[columns()];
                    for (int c = 0; c < columns(); c++) {
                        f.pixels[r][c] = shown(r, c, s + r * delay());
                    }
                }
            }
            return f;
        }

        boolean rowFits(Frame f, int r) {
            for (int c = 0; c < columns(); c++) {
                if (f.pixels[r][c] != shown(r, c, f.time + r * delay())) {
                    return false;
                }
            }
            return true;
        }

        boolean allFits() {
            for (Frame f : frames) {
                for (int r = 0; r < rows(); r++) {
                    if (f.pixels[r] != null && !rowFits(f, r)) {
                        return false;
                    }
                }
            }
            return true;
        }
    }

    /** An error that ends an order; it never leaves this class. */
    private static int firstError(boolean invalid, boolean impossible, boolean limit) {
        return invalid ? INVALID : impossible ? IMPOSSIBLE : limit ? LIMIT : 0;
    }

    private State now = new State();
    private final List<State> history = new ArrayList<>();
    private final StringBuilder text = new StringBuilder();

    private void record() {
        history.add(now.copy());
        if (history.size() == 5) {
            history.remove(0);
        }
    }

    private static int bits(int most, IntPredicate in) {
        int set = 0;
        for (int k = 0; k < most; k++) {
            if (in.test(k)) {
                set += 1 << k;
            }
        }
        return set;
    }

    private static boolean out(int value, int least, int most) {
        return value < least || value > most;
    }

    private boolean noFrame(int f) {
        return out(f, 0, now.frames.size() - 1);
    }

    private boolean noRow(int r) {
        return out(r, 0, now.rows() - 1);
    }

    private boolean noPair(int a, int b) {
        return noFrame(a) || noFrame(b) || a == b;
    }

    int set(int what, int value) {
        boolean invalid = out(what, 0, 7) || out(value, SETTING_RANGES[what][0], SETTING_RANGES[what][1]);
        int error = firstError(invalid, what <= 2 && !now.frames.isEmpty(), false);
        if (error != 0) {
            return error;
        }
        record();
        int was = now.settings[what];
        now.settings[what] = value;
        return was;
    }

    private static int wrongOfThing(int[] n) {
        int[][] ranges = {{0, 9}, {n[0], 9}, {-20000, 20000}, {-200, 200}, {50, 1600}, {0, 255}};
        for (int i = 0; i < 6; i++) {
            if (out(n[i], ranges[i][0], ranges[i][1])) {
                return i;
            }
        }
        return -1;
    }

    int thing(int top, int bottom, int position, int speed, int width, int brightness) {
        int[] numbers = {top, bottom, position, speed, width, brightness};
        int error = firstError(wrongOfThing(numbers) >= 0, false, now.things.size() == 4);
        if (error != 0) {
            return error;
        }
        record();
        add(now, numbers);
        return now.things.size() - 1;
    }

    private static void add(State state, int[] n) {
        Thing t = new Thing();
        t.top = n[0];
        t.bottom = n[1];
        t.position = n[2];
        t.speed = n[3];
        t.width = n[4];
        t.brightness = n[5];
        state.things.add(t);
    }

    int turn(int thing, int speed) {
        if (out(thing, 0, now.things.size() - 1) || out(speed, -200, 200)) {
            return INVALID;
        }
        record();
        Thing t = now.things.get(thing);
        long at = t.position + t.speed * now.time;
        int was = (int) t.speed;
        t.speed = speed;
        t.position = at - t.speed * now.time;
        return was;
    }

    int thingOf(int thing, int what) {
        if (out(thing, 0, now.things.size() - 1) || out(what, 0, 6)) {
            return INVALID;
        }
        Thing t = now.things.get(thing);
        long[] all = {t.top, t.bottom, t.position, t.speed, t.width, t.brightness, t.position + t.speed * now.time};
        return (int) all[what];
    }

    int blind(int row, int is) {
        boolean invalid = out(row, 0, 9) || out(is, 0, 1);
        int error = firstError(invalid, now.blinded.contains(row) == (is == 1), false);
        if (error != 0) {
            return error;
        }
        record();
        if (is == 1) {
            now.blinded.add(row);
        } else {
            now.blinded.remove(row);
        }
        return now.blinded.size();
    }

    int shows(int row, int column, int time) {
        if (noRow(row) || out(column, 0, now.columns() - 1) || out(time, 0, 20000)) {
            return INVALID;
        }
        return now.shown(row, column, time);
    }

    int shoot() {
        record();
        take(now);
        return now.frames.size();
    }

    private static void take(State state) {
        state.frames.add(state.frameAt(state.time));
        state.taken++;
        if (state.frames.size() == 6) {
            state.frames.remove(0);
        }
    }

    int forget(int frame) {
        if (noFrame(frame)) {
            return INVALID;
        }
        record();
        now.frames.remove(frame);
        return now.frames.size();
    }

    int frameOf(int frame, int what) {
        if (noFrame(frame) || out(what, 0, 2)) {
            return INVALID;
        }
        Frame f = now.frames.get(frame);
        if (what == 0) {
            return f.time;
        }
        if (what == 1) {
            return bits(now.rows(), r -> f.pixels[r] == null);
        }
        int all = 0;
        for (int r = 0; r < now.rows(); r++) {
            for (int c = 0; c < now.columns(); c++) {
                all += edge(f, r, c) ? 1 : 0;
            }
        }
        return all;
    }

    int pixel(int frame, int row, int column) {
        if (noFrame(frame) || noRow(row) || out(column, 0, now.columns() - 1)) {
            return INVALID;
        }
        int[] pixels = now.frames.get(frame).pixels[row];
        return pixels == null ? NONE : pixels[column];
    }

    private boolean edge(Frame f, int r, int c) {
        if (f.pixels[r] == null || c < 1 || c >= f.pixels[r].length) {
            return false;
        }
        return Math.abs(f.pixels[r][c] - f.pixels[r][c - 1]) >= now.settings[3];
    }

    int edges(int frame, int row) {
        if (noFrame(frame) || noRow(row)) {
            return INVALID;
        }
        Frame f = now.frames.get(frame);
        return f.pixels[row] == null ? NONE : bits(16, c -> edge(f, row, c));
    }

    int pass(int ticks) {
        int error = firstError(out(ticks, 1, 200), false, now.time + (long) ticks > 20000);
        if (error != 0) {
            return error;
        }
        record();
        now.time += ticks;
        return now.time;
    }

    private int ballot(Frame a, int rowOfA, Frame b, int rowOfB) {
        int best = NONE;
        int most = 0;
        for (int k : new int[] {0, -1, 1, -2, 2, -3, 3, -4, 4, -5, 5, -6, 6, -7, 7, -8, 8}) {
            int matches = 0;
            for (int c = 1; c < now.columns(); c++) {
                matches += edge(a, rowOfA, c) && edge(b, rowOfB, c + k) ? 1 : 0;
            }
            if (matches > most) {
                most = matches;
                best = k;
            }
        }
        return best;
    }

    private List<Integer> ballots(Frame a, Frame b) {
        List<Integer> all = new ArrayList<>();
        for (int r = 0; r < now.rows(); r++) {
            all.add(ballot(a, r, b, r));
        }
        return all;
    }

    private List<Integer> ballots(int first, int second) {
        return ballots(now.frames.get(first), now.frames.get(second));
    }

    private static int votesFor(List<Integer> ballots, int k) {
        int votes = 0;
        for (int ballot : ballots) {
            votes += ballot == k ? 1 : 0;
        }
        return votes;
    }

    private static int told(List<Integer> ballots) {
        for (int k = -8; k <= 8; k++) {
            boolean best = votesFor(ballots, k) > 0;
            for (int other = -8; other <= 8; other++) {
                best &= other == k || votesFor(ballots, other) < votesFor(ballots, k);
            }
            if (best) {
                return k;
            }
        }
        return NONE;
    }

    int vote(int first, int second, int row) {
        return noPair(first, second) || noRow(row) ? INVALID : ballots(first, second).get(row);
    }

    int shift(int first, int second) {
        return noPair(first, second) ? INVALID : told(ballots(first, second));
    }

    int voters(int first, int second, int shift) {
        if (noPair(first, second) || out(shift, -8, 8)) {
            return INVALID;
        }
        List<Integer> all = ballots(first, second);
        return bits(now.rows(), r -> all.get(r) == shift);
    }

    int dissent(int first, int second) {
        if (noPair(first, second)) {
            return INVALID;
        }
        List<Integer> all = ballots(first, second);
        int told = told(all);
        return told == NONE ? NONE : bits(now.rows(), r -> all.get(r) != NONE && all.get(r) != told);
    }

    int speed(int first, int second) {
        if (noPair(first, second)) {
            return INVALID;
        }
        int ticks = now.frames.get(second).time - now.frames.get(first).time;
        if (ticks == 0) {
            return IMPOSSIBLE;
        }
        int told = told(ballots(first, second));
        return told == NONE ? NONE : towardZero(100 * told, ticks);
    }

    private static int towardZero(int number, int divisor) {
        int size = Math.floorDiv(Math.abs(number), Math.abs(divisor));
        return (number < 0) == (divisor < 0) ? size : -size;
    }

    private List<Integer> slants(int frame) {
        Frame f = now.frames.get(frame);
        List<Integer> all = new ArrayList<>();
        for (int r = 0; r + 1 < now.rows(); r++) {
            all.add(ballot(f, r, f, r + 1));
        }
        return all;
    }

    int slant(int frame) {
        return noFrame(frame) ? INVALID : told(slants(frame));
    }

    int slantSpeed(int frame) {
        int error = firstError(noFrame(frame), now.delay() == 0, false);
        if (error != 0) {
            return error;
        }
        int told = told(slants(frame));
        return told == NONE ? NONE : towardZero(100 * told, now.delay());
    }

    int weighed(int first, int second) {
        if (noPair(first, second)) {
            return INVALID;
        }
        List<Integer> all = ballots(first, second);
        List<Integer> heavy = new ArrayList<>();
        for (int r = 0; r < all.size(); r++) {
            for (int i = 0; i < weight(r); i++) {
                heavy.add(all.get(r));
            }
        }
        return told(heavy);
    }

    private int weight(int row) {
        int surplus = now.agreed[row] - now.dissented[row];
        return surplus > 0 ? 1 + surplus : 1;
    }

    int judge(int first, int second) {
        if (noPair(first, second)) {
            return INVALID;
        }
        List<Integer> all = ballots(first, second);
        int told = told(all);
        if (told == NONE) {
            return NONE;
        }
        record();
        for (int r = 0; r < all.size(); r++) {
            if (all.get(r) == told) {
                now.agreed[r]++;
            } else if (all.get(r) != NONE) {
                now.dissented[r]++;
            }
        }
        return all.size() - votesFor(all, NONE);
    }

    int rowOf(int row, int what) {
        if (out(row, 0, 9) || out(what, 0, 3)) {
            return INVALID;
        }
        int[] all = {now.blinded.contains(row) ? 1 : 0, now.agreed[row], now.dissented[row], weight(row)};
        return all[what];
    }

    int bestWait(int frame, int what) {
        if (noFrame(frame) || out(what, 0, 1)) {
            return INVALID;
        }
        int[] best = {NONE, NONE};
        for (int wait = 1; wait <= 40; wait++) {
            List<Integer> all = ballots(now.frames.get(frame), now.frameAt(now.time + wait));
            int told = told(all);
            if (told != NONE && (best[0] == NONE || votesFor(all, told) > best[1])) {
                best = new int[] {wait, votesFor(all, told)};
            }
        }
        return best[what];
    }

    int motions(int thing, int what) {
        if (out(thing, 0, now.things.size() - 1) || out(what, 0, 4)) {
            return INVALID;
        }
        State other = now.copy();
        Thing moved = other.things.get(thing);
        int[] found = {0, NONE, NONE, NONE, NONE};
        for (int position = -1000; position <= 2400; position += 100) {
            for (int speed = -100; speed <= 100; speed += 10) {
                moved.position = position;
                moved.speed = speed;
                if (other.allFits()) {
                    if (found[0] == 0) {
                        found[1] = position;
                        found[2] = speed;
                    }
                    found[0]++;
                    found[3] = position;
                    found[4] = speed;
                }
            }
        }
        return found[what];
    }

    int periods() {
        State other = now.copy();
        return bits(21, period -> {
            other.settings[5] = period;
            return other.allFits();
        });
    }

    int fitting(int frame) {
        if (noFrame(frame)) {
            return INVALID;
        }
        Frame f = now.frames.get(frame);
        return bits(now.rows(), r -> f.pixels[r] != null && now.rowFits(f, r));
    }

    int count(int what) {
        if (out(what, 0, 7) && out(what, 10, 17)) {
            return INVALID;
        }
        if (what >= 10) {
            return now.settings[what - 10];
        }
        int[] all = {now.things.size(), now.frames.size(), now.time, now.blinded.size(), now.taken,
            now.dark(now.time) ? 1 : 0, history.size(), text.length()};
        return all[what];
    }

    int undo() {
        if (history.isEmpty()) {
            return IMPOSSIBLE;
        }
        now = history.remove(history.size() - 1);
        return history.size();
    }

    int type(int character) {
        int error = firstError(out(character, 32, 126), false, text.length() == 80);
        if (error != 0) {
            return error;
        }
        text.append((char) character);
        return text.length();
    }

    int clearText() {
        int had = text.length();
        text.setLength(0);
        return had;
    }

    private static final String NUMBER = "(-?[0-9]{1,5})";
    private static final Pattern ORDER = Pattern.compile(
        "t" + NUMBER + ("," + NUMBER).repeat(5) + ";|s;|[gbu](-?[0-9]{1,5});");

    /** The place, the reason and the cause of the fault of the text, or null; `done` gets what its orders do. */
    private int[] faultOf(State done) {
        int place = 0;
        while (place < text.length()) {
            Matcher matcher = ORDER.matcher(text.substring(place));
            if (!matcher.lookingAt()) {
                return new int[] {place, 1, breakOf(text.substring(place))};
            }
            String order = matcher.group();
            int[] numbers = numbersOf(order);
            int wrong = wrongNumber(order.charAt(0), numbers);
            if (wrong >= 0) {
                return new int[] {place, 2, wrong};
            }
            if (!perform(done, order.charAt(0), numbers)) {
                return new int[] {place, 3, NONE};
            }
            place += order.length();
        }
        return null;
    }

    /** How long the longest beginning is that can still become an order. */
    private static int breakOf(String rest) {
        int length = 0;
        while (length < rest.length()) {
            Matcher matcher = ORDER.matcher(rest.substring(0, length + 1));
            if (!matcher.matches() && !matcher.hitEnd()) {
                return length;
            }
            length++;
        }
        return length;
    }

    private static int[] numbersOf(String order) {
        String between = order.substring(1, order.length() - 1);
        if (between.isEmpty()) {
            return new int[0];
        }
        String[] parts = between.split(",");
        int[] numbers = new int[parts.length];
        for (int i = 0; i < parts.length; i++) {
            numbers[i] = Integer.parseInt(parts[i]);
        }
        return numbers;
    }

    private static int wrongNumber(char letter, int[] numbers) {
        switch (letter) {
            case 't': return wrongOfThing(numbers);
            case 'g': return out(numbers[0], 1, 200) ? 0 : -1;
            case 's': return -1;
            default: return out(numbers[0], 0, 9) ? 0 : -1;
        }
    }

    /** Does an order with numbers in their ranges; false if it is not possible. */
    private static boolean perform(State state, char letter, int[] numbers) {
        switch (letter) {
            case 't':
                if (state.things.size() == 4) {
                    return false;
                }
                add(state, numbers);
                return true;
            case 'g':
                state.time += numbers[0];
                return state.time <= 20000;
            case 's':
                take(state);
                return true;
            case 'b':
                return state.blinded.add(numbers[0]);
            default:
                return state.blinded.remove(numbers[0]);
        }
    }

    int fault(int what) {
        if (out(what, 0, 2)) {
            return INVALID;
        }
        int[] fault = faultOf(now.copy());
        return fault == null ? NONE : fault[what];
    }

    int play() {
        State done = now.copy();
        if (faultOf(done) != null) {
            return IMPOSSIBLE;
        }
        record();
        now = done;
        int orders = 0;
        for (int i = 0; i < text.length(); i++) {
            orders += text.charAt(i) == ';' ? 1 : 0;
        }
        return orders;
    }
}
