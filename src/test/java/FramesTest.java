/** Promises 8 to 13: frames. */
public final class FramesTest {
    private static final int INVALID = -10000001;
    private static final int LIMIT = -10000003;
    private static final int NONE = -10000004;

    public static void main(String[] args) {
        promise8Rows();
        promise8Keeps();
        promise8Drops();
        promise9();
        promise10();
        promise11();
        promise12();
        promise13();
        smallerFrames();
        Due.end();
    }

    /** A thing that goes on by a column a tick stands a delay further on in each row. */
    private static void promise8Rows() {
        RowVotes x = new RowVotes();
        x.set(2, 2);
        x.thing(0, 9, -300, 100, 100, 200);
        x.pass(3);
        Due.is("8: shoot()", x.shoot(), 1);
        for (int row = 0; row < 6; row++) {
            for (int column = 0; column < 12; column++) {
                int due = column == 2 * row ? 200 : 20;
                Due.is("8: pixel(0, " + row + ", " + column + ")", x.pixel(0, row, column), due);
            }
        }
        x.set(5, 4);
        x.set(6, 2);
        x.shoot();
        Due.is("8: lit at the time 3", x.pixel(1, 0, 0), 200);
        Due.is("8: dark at the time 5", x.pixel(1, 1, 2), 100);
        Due.is("8: lit at the time 7", x.pixel(1, 2, 4), 200);
        Due.is("8: the dim ground at the time 9", x.pixel(1, 3, 0), 10);
    }

    private static void promise8Keeps() {
        RowVotes x = new RowVotes();
        x.thing(0, 9, 0, 0, 100, 200);
        x.blind(1, 1);
        x.shoot();
        x.blind(1, 0);
        x.blind(2, 1);
        x.turn(0, 100);
        x.set(4, 99);
        x.pass(5);
        Due.is("8: the pixels are kept", x.pixel(0, 0, 0), 200);
        Due.is("8: the ground is kept", x.pixel(0, 0, 1), 20);
        Due.is("8: the time is kept", x.frameOf(0, 0), 0);
        Due.is("8: the row was blinded", x.pixel(0, 1, 0), NONE);
        Due.is("8: the row was not blinded", x.pixel(0, 2, 0), 200);
        Due.is("8: it is a change", x.undo(), 3);
    }

    private static void promise8Drops() {
        RowVotes x = new RowVotes();
        for (int i = 1; i <= 5; i++) {
            Due.is("8: frame " + i, x.shoot(), i);
            x.pass(1);
        }
        Due.is("8: a sixth frame", x.shoot(), 5);
        Due.is("8: frames taken", x.count(4), 6);
        Due.is("8: frames kept", x.count(1), 5);
        for (int i = 0; i < 5; i++) {
            Due.is("8: time of frame " + i, x.frameOf(i, 0), i + 1);
        }
        x.pass(3);
        Due.is("8: a seventh frame", x.shoot(), 5);
        Due.is("8: the oldest one now", x.frameOf(0, 0), 2);
        Due.is("8: the latest one now", x.frameOf(4, 0), 8);
    }

    private static void promise9() {
        RowVotes x = new RowVotes();
        Due.is("9: without frames", x.forget(0), INVALID);
        for (int i = 0; i < 4; i++) {
            x.shoot();
            x.pass(1);
        }
        Due.is("9: forget(4)", x.forget(4), INVALID);
        Due.is("9: forget(-1)", x.forget(-1), INVALID);
        Due.is("9: forget(1)", x.forget(1), 3);
        Due.is("9: ahead of it", x.frameOf(0, 0), 0);
        Due.is("9: behind it", x.frameOf(1, 0), 2);
        Due.is("9: the last one", x.frameOf(2, 0), 3);
        Due.is("9: no more than three", x.frameOf(3, 0), INVALID);
        Due.is("9: forget(2)", x.forget(2), 2);
        Due.is("9: frames taken stay", x.count(4), 4);
        Due.is("9: forget(0)", x.forget(0), 1);
        Due.is("9: what is left", x.frameOf(0, 0), 2);
        Due.is("9: forget(0) again", x.forget(0), 0);
        Due.is("9: none is left", x.forget(0), INVALID);
        Due.is("9: shoot()", x.shoot(), 1);
        Due.is("9: frames taken", x.count(4), 5);
        Due.is("9: it is a change", x.undo(), 3);
        Due.is("9: and undone", x.undo(), 2);
        Due.is("9: frame is back", x.frameOf(0, 0), 2);
    }

    private static void promise10() {
        RowVotes x = new RowVotes();
        x.thing(0, 2, 300, 0, 200, 60);
        x.blind(1, 1);
        x.blind(5, 1);
        x.blind(8, 1);
        x.pass(7);
        x.shoot();
        Due.is("10: its time", x.frameOf(0, 0), 7);
        Due.is("10: its blinded rows", x.frameOf(0, 1), 34);
        x.blind(6, 1);
        x.shoot();
        Due.is("10: the row 6 is not there", x.frameOf(1, 1), 34);
        x.forget(1);
        Due.is("10: its edges", x.frameOf(0, 2), 4);
        x.set(3, 41);
        Due.is("10: its edges with another threshold", x.frameOf(0, 2), 0);
        Due.is("10: frameOf(0, 3)", x.frameOf(0, 3), INVALID);
        Due.is("10: frameOf(0, -1)", x.frameOf(0, -1), INVALID);
        Due.is("10: frameOf(1, 0)", x.frameOf(1, 0), INVALID);
        Due.is("10: frameOf(-1, 0)", x.frameOf(-1, 0), INVALID);
    }

    private static void promise11() {
        RowVotes x = new RowVotes();
        Due.is("11: without frames", x.pixel(0, 0, 0), INVALID);
        x.set(0, 10);
        x.set(1, 16);
        x.thing(9, 9, 1500, 0, 100, 123);
        x.blind(3, 1);
        x.shoot();
        Due.is("11: the last one", x.pixel(0, 9, 15), 123);
        Due.is("11: the one ahead of it", x.pixel(0, 9, 14), 20);
        Due.is("11: of a blinded row", x.pixel(0, 3, 0), NONE);
        Due.is("11: a wrong column of a blinded row", x.pixel(0, 3, 16), INVALID);
        Due.is("11: pixel(0, 10, 0)", x.pixel(0, 10, 0), INVALID);
        Due.is("11: pixel(0, -1, 0)", x.pixel(0, -1, 0), INVALID);
        Due.is("11: pixel(0, 0, -1)", x.pixel(0, 0, -1), INVALID);
        Due.is("11: pixel(1, 0, 0)", x.pixel(1, 0, 0), INVALID);
        Due.is("11: pixel(-1, 0, 0)", x.pixel(-1, 0, 0), INVALID);
        x.forget(0);
        x.set(0, 4);
        x.set(1, 4);
        x.shoot();
        Due.is("11: fewer rows", x.pixel(0, 4, 0), INVALID);
        Due.is("11: fewer columns", x.pixel(0, 0, 4), INVALID);
        Due.is("11: the last one of fewer", x.pixel(0, 2, 3), 20);
    }

    private static void promise12() {
        RowVotes x = new RowVotes();
        Due.is("12: without frames", x.edges(0, 0), INVALID);
        x.thing(0, 0, 0, 0, 300, 60);
        x.thing(1, 1, 400, 0, 200, 59);
        x.thing(2, 2, 400, 0, 1600, 255);
        x.set(4, 20);
        x.blind(3, 1);
        x.shoot();
        Due.is("12: a difference of the threshold", x.edges(0, 0), 8);
        Due.is("12: a difference of less", x.edges(0, 1), 0);
        Due.is("12: a rise", x.edges(0, 2), 16);
        Due.is("12: a blinded row", x.edges(0, 3), NONE);
        Due.is("12: nothing in it", x.edges(0, 4), 0);
        Due.is("12: edges(0, 6)", x.edges(0, 6), INVALID);
        Due.is("12: edges(0, -1)", x.edges(0, -1), INVALID);
        Due.is("12: edges(1, 0)", x.edges(1, 0), INVALID);
        Due.is("12: edges(-1, 0)", x.edges(-1, 0), INVALID);
        x.set(3, 39);
        Due.is("12: by the threshold as it is now", x.edges(0, 1), 80);
        x.set(3, 41);
        Due.is("12: by a greater threshold", x.edges(0, 0), 0);
        x.forget(0);
        x.set(1, 16);
        x.thing(5, 5, 1500, 0, 100, 255);
        x.shoot();
        Due.is("12: the last column", x.edges(0, 5), 32768);
    }

    /** Nothing is left of the rows and columns that larger frames had. */
    private static void smallerFrames() {
        RowVotes x = new RowVotes();
        x.set(0, 10);
        x.set(1, 16);
        x.set(2, 0);
        x.thing(0, 9, 100, 100, 1600, 200);
        for (int i = 0; i < 5; i++) {
            x.shoot();
        }
        Due.is("10: edges of a large frame", x.frameOf(4, 2), 10);
        for (int i = 0; i < 5; i++) {
            x.forget(0);
        }
        x.set(0, 3);
        x.set(1, 5);
        x.shoot();
        x.pass(1);
        x.shoot();
        Due.is("10: edges of a small frame", x.frameOf(1, 2), 3);
        Due.is("12: edges in a short row", x.edges(1, 2), 4);
        Due.is("16: voters of small frames", x.voters(0, 1, 1), 7);
        Due.is("22: judges of small frames", x.judge(0, 1), 3);
        Due.is("26: periods of small frames", x.periods(), (1 << 21) - 1);
        Due.is("27: fitting of a small frame", x.fitting(1), 7);
        x.blind(1, 1);
        x.shoot();
        Due.is("27: fitting of a small frame with a blinded row", x.fitting(2), 5);
        Due.is("16: voters of a frame with a blinded row", x.voters(0, 2, 1), 5);
    }

    private static void promise13() {
        RowVotes x = new RowVotes();
        Due.is("13: pass(0)", x.pass(0), INVALID);
        Due.is("13: pass(-1)", x.pass(-1), INVALID);
        Due.is("13: pass(201)", x.pass(201), INVALID);
        Due.is("13: pass(MAX)", x.pass(Integer.MAX_VALUE), INVALID);
        Due.is("13: pass(1)", x.pass(1), 1);
        for (int i = 1; i < 100; i++) {
            Due.is("13: pass(200)", x.pass(200), 200 * i + 1);
        }
        Due.is("13: beyond the end", x.pass(200), LIMIT);
        Due.is("13: pass(199)", x.pass(199), 20000);
        Due.is("13: pass(1) at the end", x.pass(1), LIMIT);
        Due.is("13: pass(0) at the end", x.pass(0), INVALID);
        Due.is("13: pass(201) at the end", x.pass(201), INVALID);
        Due.is("13: count(2)", x.count(2), 20000);
    }
}
