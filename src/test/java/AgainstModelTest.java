import java.util.Random;

/** Long runs of calls, each of them answered by RowVotes and by the plain model. All seeds are fixed. */
public final class AgainstModelTest {
    private static final int CALLS = 512;
    private static final int RUNS = 600;
    private static final int[] ODD = {Integer.MIN_VALUE, Integer.MAX_VALUE, Integer.MIN_VALUE + 1,
        Integer.MAX_VALUE - 1, -1, 256, 1000000, -1000000, 31, 32, -32, 65536 + 's', 1 << 30};
    private static final String[] NAMES = {"set", "thing", "turn", "thingOf", "blind", "shows", "shoot", "forget",
        "frameOf", "pixel", "edges", "pass", "vote", "shift", "voters", "dissent", "speed", "slant", "slantSpeed",
        "weighed", "judge", "rowOf", "bestWait", "motions", "periods", "fitting", "count", "undo", "type",
        "clearText", "fault", "play"};
    /** How often each call is made, in the order of the names. */
    private static final int[] OFTEN = {3, 3, 2, 4, 2, 4, 8, 2, 4, 4, 5, 7, 7, 4, 5, 4, 5, 4, 4,
        6, 7, 6, 3, 3, 3, 4, 5, 3, 1, 1, 1, 1};
    private static final int[][] SETTING_RANGES =
        {{1, 10}, {4, 16}, {0, 9}, {1, 255}, {0, 255}, {0, 20}, {0, 20}, {0, 100}};

    private final Random random;
    private final String run;
    /** In a wild run every fourth argument is a boundary, beyond one, or odd. */
    private final boolean wild;
    private final RowVotes real = new RowVotes();
    private final PlainModel model = new PlainModel();
    private int made = 0;

    private AgainstModelTest(int seed) {
        random = new Random(seed);
        run = "run " + seed;
        wild = seed % 8 == 0;
    }

    public static void main(String[] args) {
        for (int seed = 1; seed <= RUNS; seed++) {
            new AgainstModelTest(seed).go();
        }
        Due.end();
    }

    private void go() {
        begin();
        while (made < CALLS) {
            if (random.nextInt(60) == 0) {
                typeText();
            } else {
                callOne(pickCall());
            }
        }
    }

    /** Most runs start with settings and things with which there is something to see. */
    private void begin() {
        int changes = random.nextBoolean() ? random.nextInt(9) : 0;
        for (int i = 0; i < changes; i++) {
            callOne(0);
        }
        if (random.nextBoolean()) {
            call(0, 3, in(1, 20));
        }
        int things = 1 + random.nextInt(4);
        for (int i = 0; i < things; i++) {
            callOne(1);
        }
        if (random.nextInt(12) == 0) {
            for (int i = 0; i < 101 && made < CALLS - 200; i++) {
                call(11, 200);
            }
        }
    }

    private int pickCall() {
        int all = 0;
        for (int often : OFTEN) {
            all += often;
        }
        int pick = random.nextInt(all);
        int which = 0;
        while (pick >= OFTEN[which]) {
            pick -= OFTEN[which];
            which++;
        }
        return which;
    }

    private int in(int least, int most) {
        int odds = random.nextInt(wild ? 24 : 100);
        if (odds == 0) {
            return ODD[random.nextInt(ODD.length)];
        }
        if (odds == 1) {
            return least - 1;
        }
        if (odds == 2) {
            return most + 1;
        }
        if (odds < 6) {
            return random.nextBoolean() ? least : most;
        }
        return most < least ? least : least + random.nextInt(most - least + 1);
    }

    private int near(int step, int least, int most) {
        return random.nextInt(5) == 0 ? in(least * step, most * step) : step * in(least, most);
    }

    private int aFrame() {
        return in(0, Math.max(0, model.count(1) - 1));
    }

    private int aThing() {
        return in(0, Math.max(0, model.count(0) - 1));
    }

    private int aRow() {
        return in(0, model.count(10) - 1);
    }

    private int aColumn() {
        return in(0, model.count(11) - 1);
    }

    private void callOne(int which) {
        switch (which) {
            case 0: callSet(); break;
            case 1: callThing(); break;
            case 2: call(which, aThing(), near(10, -20, 20)); break;
            case 3: call(which, aThing(), in(0, 6)); break;
            case 4: call(which, in(0, 9), random.nextInt(3) == 0 ? in(0, 1) : 0); break;
            case 5: call(which, aRow(), aColumn(), random.nextBoolean() ? in(0, 60) : in(0, 20000)); break;
            case 7: case 17: case 18: case 25: call(which, aFrame()); break;
            case 8: call(which, aFrame(), in(0, 2)); break;
            case 9: call(which, aFrame(), aRow(), aColumn()); break;
            case 10: call(which, aFrame(), aRow()); break;
            case 11: call(which, random.nextInt(12) == 0 ? in(1, 200) : in(1, 5)); break;
            case 12: call(which, aFrame(), aFrame(), aRow()); break;
            case 13: case 15: case 16: case 19: case 20: call(which, aFrame(), aFrame()); break;
            case 14: call(which, aFrame(), aFrame(), random.nextBoolean() ? in(-2, 2) : in(-8, 8)); break;
            case 21: call(which, in(0, 9), in(0, 3)); break;
            case 22: call(which, aFrame(), in(0, 1)); break;
            case 23: call(which, aThing(), in(0, 4)); break;
            case 26: call(which, random.nextBoolean() ? in(0, 7) : in(8, 17)); break;
            case 28: call(which, in(32, 126)); break;
            case 30: call(which, in(0, 2)); break;
            default: call(which); break;
        }
    }

    private void callSet() {
        int what = in(0, 7);
        int[] range = what >= 0 && what < 8 ? SETTING_RANGES[what] : new int[] {0, 9};
        if (what == 3 && random.nextInt(4) != 0) {
            call(0, what, in(1, 60));
        } else if (what == 2 && random.nextBoolean()) {
            call(0, what, in(0, 3));
        } else {
            call(0, what, in(range[0], range[1]));
        }
    }

    private void callThing() {
        int[] n = someThing();
        call(1, n[0], n[1], n[2], n[3], n[4], n[5]);
    }

    private int[] someThing() {
        int top = random.nextBoolean() ? in(0, 2) : in(0, 9);
        int bottom = in(Math.max(0, Math.min(9, top)), 9);
        int speed = random.nextInt(6) == 0 ? in(-200, 200) : near(10, -8, 8);
        int inView = near(100, -3, 14) - speed * (random.nextInt(4) == 0 ? 0 : model.count(2));
        int position = random.nextInt(8) == 0 || Math.abs(inView) > 20000 ? in(-20000, 20000) : inView;
        int width = random.nextInt(4) == 0 ? in(50, 1600) : near(50, 2, 10);
        return new int[] {top, bottom, position, speed, width, in(0, 255)};
    }

    private void typeText() {
        if (random.nextInt(8) != 0 && made < CALLS) {
            call(29);
        }
        String text = someText();
        for (int i = 0; i < text.length() && made < CALLS; i++) {
            call(28, text.charAt(i));
        }
        for (int what = 0; what < 3 && made < CALLS; what++) {
            call(30, what);
        }
        if (made < CALLS) {
            call(31);
        }
    }

    private String someText() {
        StringBuilder text = new StringBuilder();
        int most = random.nextInt(3) == 0 ? 90 : 40;
        int orders = random.nextInt(12);
        for (int i = 0; i < orders && text.length() < most; i++) {
            text.append(someOrder());
        }
        if (random.nextInt(4) == 0 && text.length() > 0) {
            int at = random.nextInt(text.length());
            String signs = "0123456789-,;tgsbu x";
            char sign = signs.charAt(random.nextInt(signs.length()));
            switch (random.nextInt(4)) {
                case 0: text.setCharAt(at, sign); break;
                case 1: text.insert(at, sign); break;
                case 2: text.deleteCharAt(at); break;
                default: text.setLength(at); break;
            }
        }
        return text.toString();
    }

    private String someOrder() {
        switch (random.nextInt(7)) {
            case 0: case 1: return "s;";
            case 2: return "b" + number(in(0, 9)) + ";";
            case 3: return "u" + number(in(0, 9)) + ";";
            case 4:
                int[] n = someThing();
                StringBuilder order = new StringBuilder("t");
                for (int i = 0; i < n.length; i++) {
                    order.append(i == 0 ? "" : ",").append(number(n[i]));
                }
                return order.append(";").toString();
            default: return "g" + number(random.nextInt(6) == 0 ? in(1, 200) : in(1, 5)) + ";";
        }
    }

    private String number(int value) {
        String digits = Integer.toString(Math.abs(value % 1000000));
        String ahead = random.nextInt(6) == 0 ? "00000".substring(random.nextInt(6)) : "";
        boolean minus = value < 0 || (value == 0 && random.nextInt(6) == 0);
        return (minus ? "-" : "") + ahead + digits;
    }

    private void call(int which, int... a) {
        made++;
        StringBuilder call = new StringBuilder(run).append(", call ").append(made).append(": ").append(NAMES[which]);
        for (int argument : a) {
            call.append(' ').append(argument);
        }
        Due.is(call.toString(), askReal(which, a), askModel(which, a));
    }

    private int askReal(int which, int[] a) {
        switch (which) {
            case 0: return real.set(a[0], a[1]);
            case 1: return real.thing(a[0], a[1], a[2], a[3], a[4], a[5]);
            case 2: return real.turn(a[0], a[1]);
            case 3: return real.thingOf(a[0], a[1]);
            case 4: return real.blind(a[0], a[1]);
            case 5: return real.shows(a[0], a[1], a[2]);
            case 6: return real.shoot();
            case 7: return real.forget(a[0]);
            case 8: return real.frameOf(a[0], a[1]);
            case 9: return real.pixel(a[0], a[1], a[2]);
            case 10: return real.edges(a[0], a[1]);
            case 11: return real.pass(a[0]);
            case 12: return real.vote(a[0], a[1], a[2]);
            case 13: return real.shift(a[0], a[1]);
            case 14: return real.voters(a[0], a[1], a[2]);
            case 15: return real.dissent(a[0], a[1]);
            case 16: return real.speed(a[0], a[1]);
            case 17: return real.slant(a[0]);
            case 18: return real.slantSpeed(a[0]);
            case 19: return real.weighed(a[0], a[1]);
            case 20: return real.judge(a[0], a[1]);
            case 21: return real.rowOf(a[0], a[1]);
            case 22: return real.bestWait(a[0], a[1]);
            case 23: return real.motions(a[0], a[1]);
            case 24: return real.periods();
            case 25: return real.fitting(a[0]);
            case 26: return real.count(a[0]);
            case 27: return real.undo();
            case 28: return real.type(a[0]);
            case 29: return real.clearText();
            case 30: return real.fault(a[0]);
            default: return real.play();
        }
    }

    private int askModel(int which, int[] a) {
        switch (which) {
            case 0: return model.set(a[0], a[1]);
            case 1: return model.thing(a[0], a[1], a[2], a[3], a[4], a[5]);
            case 2: return model.turn(a[0], a[1]);
            case 3: return model.thingOf(a[0], a[1]);
            case 4: return model.blind(a[0], a[1]);
            case 5: return model.shows(a[0], a[1], a[2]);
            case 6: return model.shoot();
            case 7: return model.forget(a[0]);
            case 8: return model.frameOf(a[0], a[1]);
            case 9: return model.pixel(a[0], a[1], a[2]);
            case 10: return model.edges(a[0], a[1]);
            case 11: return model.pass(a[0]);
            case 12: return model.vote(a[0], a[1], a[2]);
            case 13: return model.shift(a[0], a[1]);
            case 14: return model.voters(a[0], a[1], a[2]);
            case 15: return model.dissent(a[0], a[1]);
            case 16: return model.speed(a[0], a[1]);
            case 17: return model.slant(a[0]);
            case 18: return model.slantSpeed(a[0]);
            case 19: return model.weighed(a[0], a[1]);
            case 20: return model.judge(a[0], a[1]);
            case 21: return model.rowOf(a[0], a[1]);
            case 22: return model.bestWait(a[0], a[1]);
            case 23: return model.motions(a[0], a[1]);
            case 24: return model.periods();
            case 25: return model.fitting(a[0]);
            case 26: return model.count(a[0]);
            case 27: return model.undo();
            case 28: return model.type(a[0]);
            case 29: return model.clearText();
            case 30: return model.fault(a[0]);
            default: return model.play();
        }
    }
}
