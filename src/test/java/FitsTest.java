/** Promises 25 to 29: what fits, count and undo. */
public final class FitsTest {
    private static final int INVALID = -10000001;
    private static final int IMPOSSIBLE = -10000002;
    private static final int NONE = -10000004;
    private static final int ALL_PERIODS = (1 << 21) - 1;

    public static void main(String[] args) {
        promise25WithoutFrames();
        promise25();
        promise25Others();
        promise25AllRows();
        promise26();
        promise26Others();
        promise27();
        promise28();
        promise29();
        promise29Things();
        promise29Settings();
        promise29Frames();
        promise29Errors();
        Due.end();
    }

    private static void dueMotions(String when, RowVotes x, int thing, int... due) {
        for (int what = 0; what < due.length; what++) {
            Due.is("25: " + when + ": motions(" + thing + ", " + what + ")", x.motions(thing, what), due[what]);
        }
    }

    private static void promise25WithoutFrames() {
        RowVotes x = new RowVotes();
        Due.is("25: without things", x.motions(0, 0), INVALID);
        x.thing(0, 9, 0, 0, 100, 200);
        dueMotions("without frames", x, 0, 735, -1000, -100, 2400, 100);
        Due.is("25: motions(1, 0)", x.motions(1, 0), INVALID);
        Due.is("25: motions(-1, 0)", x.motions(-1, 0), INVALID);
        Due.is("25: motions(0, 5)", x.motions(0, 5), INVALID);
        Due.is("25: motions(0, -1)", x.motions(0, -1), INVALID);
        for (int row = 0; row < 6; row++) {
            x.blind(row, 1);
        }
        x.shoot();
        dueMotions("all rows are blinded", x, 0, 735, -1000, -100, 2400, 100);
        Due.is("25: the thing is as it was", x.thingOf(0, 2), 0);
    }

    /** One row of four columns, and a thing of one column. */
    private static RowVotes narrow() {
        RowVotes x = new RowVotes();
        x.set(0, 1);
        x.set(1, 4);
        x.thing(0, 9, 100, 10, 100, 200);
        x.shoot();
        return x;
    }

    private static void promise25() {
        RowVotes x = narrow();
        dueMotions("one frame at the time 0", x, 0, 21, 100, -100, 100, 100);
        x.pass(10);
        x.shoot();
        dueMotions("two frames", x, 0, 1, 100, 10, 100, 10);
        x.turn(0, 77);
        dueMotions("whatever its motion is now", x, 0, 1, 100, 10, 100, 10);
        x.forget(0);
        x.pass(1);
        // 10 ticks from 200 with the right side left of 250: 21 speeds, a step of positions for each
        dueMotions("a frame at the time 10", x, 0, 21, -800, 100, 1200, -100);
        x.set(4, 21);
        dueMotions("another ground", x, 0, 0, NONE, NONE, NONE, NONE);
    }

    private static void promise25Others() {
        RowVotes x = narrow();
        x.thing(0, 0, 0, 0, 50, 90);
        dueMotions("a thing that was not there, in sight of nothing", x, 0, 21, 100, -100, 100, 100);
        x.thing(0, 0, 0, 0, 51, 90);
        dueMotions("a thing that was not there", x, 0, 0, NONE, NONE, NONE, NONE);
        // it would have to be out of sight at the time 0: at -100 or less, or at 400 or more
        dueMotions("the thing itself", x, 2, 651, -1000, -100, 2400, 100);
        x = narrow();
        x.forget(0);
        x.thing(0, 0, 0, 0, 200, 90);
        x.shoot();
        // hidden in the columns 0 and 1, or out of sight: anywhere but at 200 and at 300
        dueMotions("a thing that is hidden", x, 0, 693, -1000, -100, 2400, 100);
        x = narrow();
        x.forget(0);
        x.thing(0, 0, 1600, 0, 100, 200);
        x.thing(3, 5, 0, 0, 100, 200);
        x.shoot();
        dueMotions("a thing in rows that there are not", x, 2, 735, -1000, -100, 2400, 100);
        dueMotions("one of the same brightness, out of sight", x, 1, 672, -1000, -100, 2400, 100);
        x.set(5, 1);
        x.set(6, 1);
        dueMotions("the lamp is dark now", x, 0, 0, NONE, NONE, NONE, NONE);
        x.set(7, 100);
        dueMotions("the lamp is not dimmed", x, 0, 21, 100, -100, 100, 100);
    }

    /** Only the last row of the last frame tells anything of the thing. */
    private static void promise25AllRows() {
        RowVotes x = new RowVotes();
        x.set(0, 10);
        x.set(1, 4);
        x.set(2, 0);
        x.thing(9, 9, 100, 0, 100, 200);
        x.blind(9, 1);
        for (int i = 0; i < 4; i++) {
            x.shoot();
        }
        dueMotions("its row is blinded in all frames", x, 0, 735, -1000, -100, 2400, 100);
        x.blind(9, 0);
        x.shoot();
        dueMotions("its row is blinded in four frames", x, 0, 21, 100, -100, 100, 100);
        x.forget(4);
        dueMotions("that frame is forgotten", x, 0, 735, -1000, -100, 2400, 100);
    }

    private static RowVotes lamp(int period, int darkTicks) {
        RowVotes x = new RowVotes();
        x.set(0, 1);
        x.set(4, 100);
        x.set(5, period);
        x.set(6, darkTicks);
        return x;
    }

    private static void promise26() {
        RowVotes x = lamp(4, 1);
        Due.is("26: without frames", x.periods(), ALL_PERIODS);
        x.shoot();
        Due.is("26: dark at 0", x.periods(), ALL_PERIODS - 1);
        x.pass(3);
        x.shoot();
        Due.is("26: lit at 3", x.periods(), ALL_PERIODS - 1 - 2 - 8);
        x.pass(1);
        x.shoot();
        Due.is("26: dark at 4", x.periods(), 4 + 16);
        x.pass(2);
        x.shoot();
        Due.is("26: lit at 6", x.periods(), 16);
        x.forget(0);
        x.forget(1);
        // lit at 3 and 6: no divisor of these, and the period 0 is not dark either
        Due.is("26: lit at 3 and 6", x.periods(), ALL_PERIODS - 2 - 4 - 8 - 64);
        x.set(5, 0);
        Due.is("26: whatever the period is now", x.periods(), ALL_PERIODS - 2 - 4 - 8 - 64);
        x.set(6, 0);
        Due.is("26: never dark", x.periods(), ALL_PERIODS);
        x.set(6, 20);
        Due.is("26: always dark", x.periods(), 1);
        x.set(7, 100);
        Due.is("26: dark, but not dimmed", x.periods(), ALL_PERIODS);
    }

    private static void promise26Others() {
        RowVotes x = lamp(20, 20);
        x.blind(0, 1);
        x.shoot();
        Due.is("26: the row is blinded", x.periods(), ALL_PERIODS);
        x.blind(0, 0);
        x.shoot();
        Due.is("26: all that are dark for 20 ticks", x.periods(), ALL_PERIODS - 1);
        x.set(4, 99);
        Due.is("26: 99 dimmed is less", x.periods(), 0);
        x.set(4, 101);
        Due.is("26: 101 dimmed is the same", x.periods(), ALL_PERIODS - 1);
        x.set(4, 50);
        Due.is("26: 50 not dimmed is the same", x.periods(), 1);
        x = new RowVotes();
        x.set(0, 2);
        x.set(2, 3);
        x.set(6, 1);
        x.set(5, 3);
        x.shoot();
        Due.is("26: the second row is 3 ticks later", x.periods(), 2 + 8);
    }

    private static void promise27() {
        RowVotes x = new RowVotes();
        Due.is("27: without frames", x.fitting(0), INVALID);
        x.thing(1, 2, 300, 50, 200, 200);
        x.blind(4, 1);
        x.shoot();
        Due.is("27: all but the blinded one", x.fitting(0), 47);
        x.blind(4, 0);
        x.blind(0, 1);
        Due.is("27: rows that are blinded now", x.fitting(0), 47);
        x.pass(9);
        x.turn(0, 100);
        Due.is("27: the thing has not moved so", x.fitting(0), 41);
        x.turn(0, 60);
        Due.is("27: it would have been in sight alike in one row", x.fitting(0), 43);
        x.undo();
        x.undo();
        Due.is("27: it has not been turned", x.fitting(0), 47);
        x.thing(2, 5, 0, 0, 100, 90);
        Due.is("27: a thing that was not there", x.fitting(0), 3);
        x.set(4, 30);
        Due.is("27: another ground", x.fitting(0), 0);
        Due.is("27: fitting(1)", x.fitting(1), INVALID);
        Due.is("27: fitting(-1)", x.fitting(-1), INVALID);
        x = new RowVotes();
        x.set(2, 2);
        x.shoot();
        x.set(6, 1);
        x.set(5, 4);
        Due.is("27: the lamp is dark for each second row", x.fitting(0), 42);
    }

    private static void promise28() {
        RowVotes x = new RowVotes();
        x.thing(0, 9, 0, 0, 100, 200);
        x.thing(0, 9, 0, 0, 100, 200);
        for (int i = 0; i < 6; i++) {
            x.shoot();
        }
        x.forget(0);
        x.forget(0);
        x.pass(7);
        x.blind(9, 1);
        x.blind(2, 1);
        x.type('s');
        int[] due = {2, 3, 7, 2, 6, 0, 4, 1};
        for (int what = 0; what < due.length; what++) {
            Due.is("28: count(" + what + ")", x.count(what), due[what]);
        }
        x.set(5, 7);
        x.set(6, 1);
        Due.is("28: the lamp is dark now", x.count(5), 1);
        x.pass(1);
        Due.is("28: the lamp is lit now", x.count(5), 0);
        x.set(5, 0);
        Due.is("28: the lamp is never dark", x.count(5), 0);
        int[] wrong = {-1, 8, 9, 18, Integer.MIN_VALUE, Integer.MAX_VALUE};
        for (int what : wrong) {
            Due.is("28: count(" + what + ")", x.count(what), INVALID);
        }
        for (int what = 3; what <= 7; what++) {
            x.set(what, 9 + what);
            Due.is("28: count(" + (10 + what) + ")", x.count(10 + what), 9 + what);
        }
    }

    private static void promise29() {
        RowVotes x = new RowVotes();
        Due.is("29: at first", x.undo(), IMPOSSIBLE);
        for (int i = 1; i <= 6; i++) {
            x.pass(1);
            Due.is("29: states after change " + i, x.count(6), Math.min(4, i));
        }
        x.type('s');
        for (int i = 1; i <= 4; i++) {
            Due.is("29: undo " + i, x.undo(), 4 - i);
            Due.is("29: the time after undo " + i, x.count(2), 6 - i);
        }
        Due.is("29: the history is empty", x.undo(), IMPOSSIBLE);
        Due.is("29: the time stays", x.count(2), 2);
        Due.is("29: the text stays", x.count(7), 1);
        x.pass(1);
        Due.is("29: undo after another change", x.undo(), 0);
        Due.is("29: the time after that", x.count(2), 2);
    }

    private static void promise29Things() {
        RowVotes x = new RowVotes();
        x.thing(0, 5, 200, 100, 200, 200);
        x.shoot();
        x.pass(1);
        x.shoot();
        x.judge(0, 1);
        x.forget(0);
        x.turn(0, 5);
        x.blind(3, 1);
        Due.is("29: undo blind", x.undo(), 3);
        Due.is("29: no row is blinded", x.count(3), 0);
        Due.is("29: undo turn", x.undo(), 2);
        Due.is("29: the speed is back", x.thingOf(0, 3), 100);
        Due.is("29: the position is back", x.thingOf(0, 2), 200);
        Due.is("29: undo forget", x.undo(), 1);
        Due.is("29: the frame is back", x.count(1), 2);
        Due.is("29: its time is back", x.frameOf(0, 0), 0);
        Due.is("29: its pixels are back", x.edges(0, 0), 20);
        Due.is("29: the votes are back", x.shift(0, 1), 1);
        Due.is("29: undo judge", x.undo(), 0);
        Due.is("29: nothing is judged", x.rowOf(0, 1), 0);
        x.set(4, 77);
        x.thing(0, 0, 0, 0, 100, 100);
        x.shoot();
        Due.is("29: undo shoot", x.undo(), 2);
        Due.is("29: frames taken are back", x.count(4), 2);
        Due.is("29: undo thing", x.undo(), 1);
        Due.is("29: the thing is gone", x.thingOf(1, 0), INVALID);
        Due.is("29: undo set", x.undo(), 0);
        Due.is("29: the setting is back", x.count(14), 20);
    }

    private static void promise29Settings() {
        int[] first = {6, 12, 1, 40, 20, 0, 0, 50};
        for (int what = 0; what <= 7; what++) {
            RowVotes x = new RowVotes();
            x.set(what, 9);
            Due.is("29: undo set(" + what + ", 9)", x.undo(), 0);
            Due.is("29: setting " + what, x.count(10 + what), first[what]);
        }
    }

    /** A frame that is dropped and taken anew is restored with its time, its pixels and its blinded rows. */
    private static void promise29Frames() {
        RowVotes x = new RowVotes();
        x.thing(0, 0, 0, 0, 100, 200);
        x.blind(1, 1);
        x.shoot();
        x.forget(0);
        x.blind(1, 0);
        x.set(4, 33);
        x.pass(1);
        x.undo();
        x.undo();
        x.undo();
        Due.is("29: undo forget", x.undo(), 0);
        Due.is("29: the row was blinded", x.frameOf(0, 1), 2);
        Due.is("29: the pixel 0", x.pixel(0, 0, 0), 200);
        x = new RowVotes();
        for (int i = 0; i < 5; i++) {
            x.thing(0, 9, 100 * i, 0, 100, 200);
            x.blind(i, 1);
            x.shoot();
            x.pass(1);
        }
        x.blind(9, 1);
        x.shoot();
        x.shoot();
        x.shoot();
        Due.is("29: the oldest frame ahead of undo", x.frameOf(0, 1), 15);
        x.undo();
        x.undo();
        x.undo();
        for (int i = 0; i < 5; i++) {
            Due.is("29: blinded rows of frame " + i, x.frameOf(i, 1), (2 << i) - 1);
            Due.is("29: time of frame " + i, x.frameOf(i, 0), i);
            Due.is("29: ground of frame " + i, x.pixel(i, 5, 11), 20);
            Due.is("29: thing of frame " + i, x.pixel(i, 5, 3), i < 3 ? 20 : 200);
        }
    }

    private static void promise29Errors() {
        RowVotes x = new RowVotes();
        x.set(0, 11);
        x.thing(0, 0, 0, 0, 0, 0);
        x.turn(0, 0);
        x.blind(0, 0);
        x.forget(0);
        x.pass(0);
        x.judge(0, 1);
        x.type('x');
        x.play();
        x.clearText();
        Due.is("29: errors and texts are no changes", x.undo(), IMPOSSIBLE);
        x.set(3, 40);
        x.pass(1);
        Due.is("29: undo pass", x.undo(), 1);
        Due.is("29: a setting that is set to what it was", x.undo(), 0);
    }
}
