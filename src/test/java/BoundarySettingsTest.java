/** Boundary cases of the settings, promises 1 and 2: each sentence of the document has its own test. */
public final class BoundarySettingsTest {
    private static final String[] SETTINGS = {"0 the rows (1 to 10; 6)", "1 the columns (4 to 16; 12)",
        "2 the delay of a row (0 to 9; 1)", "3 the threshold (1 to 255; 40)", "4 the ground (0 to 255; 20)",
        "5 the period of the lamp (0 to 20; 0: it is never dark)", "6 its dark ticks (0 to 20; 0)",
        "7 the dim (0 to 100; 50)"};
    private static final int[] LEAST = {1, 4, 0, 1, 0, 0, 0, 0};
    private static final int[] MOST = {10, 16, 9, 255, 255, 20, 20, 100};
    private static final int[] FIRST = {6, 12, 1, 40, 20, 0, 0, 50};

    public static void main(String[] args) {
        newCamera();
        for (int what = 0; what < SETTINGS.length; what++) {
            rangeOf(what);
        }
        whichSetting();
        whatItWas();
        rowsInUse();
        columnsInUse();
        delayInUse();
        thresholdInUse();
        groundInUse();
        dimInUse();
        framesKept();
        framesKeptByOtherWays();
        fewerRowsLeaveAll();
        fewerRowsNotLookedAt();
        fewerRowsVotes();
        fewerRowsThanFramesHad();
        fewerColumnsThanFramesHad();
        Due.end();
    }

    private static void newCamera() {
        Due.sentence("Creates a camera without things and frames, at the time 0.");
        RowVotes x = new RowVotes();
        Due.is("things", x.count(0), 0);
        Due.is("the thing 0", x.thingOf(0, 0), Cameras.INVALID);
        Due.is("frames", x.count(1), 0);
        Due.is("the frame 0", x.frameOf(0, 0), Cameras.INVALID);
        Due.is("frames taken", x.count(4), 0);
        Due.is("the time", x.count(2), 0);
        Due.is("a tick later", x.pass(1), 1);
    }

    private static void rangeOf(int what) {
        Due.sentence(SETTINGS[what]);
        RowVotes x = new RowVotes();
        int least = LEAST[what];
        int most = MOST[what];
        Due.is("its first value", x.count(10 + what), FIRST[what]);
        for (int value : new int[] {least - 1, most + 1, Integer.MIN_VALUE, Integer.MAX_VALUE}) {
            Due.is("set(" + what + ", " + value + ")", x.set(what, value), Cameras.INVALID);
            Due.is("its value then", x.count(10 + what), FIRST[what]);
        }
        int before = FIRST[what];
        for (int value : new int[] {least, least + 1, most - 1, most}) {
            Due.is("set(" + what + ", " + value + ")", x.set(what, value), before);
            Due.is("its value then", x.count(10 + what), value);
            before = value;
        }
        Due.is("one beyond it again", x.set(what, most + 1), Cameras.INVALID);
        Due.is("its value at last", x.count(10 + what), most);
        for (int other = 0; other < SETTINGS.length; other++) {
            Due.is("the setting " + other, x.count(10 + other), other == what ? most : FIRST[other]);
        }
    }

    private static void whichSetting() {
        Due.sentence("- `what`: 0 to 7\n- `value`: a value in its range");
        RowVotes x = new RowVotes();
        for (int what : new int[] {-1, 8, 9, 10, Integer.MIN_VALUE, Integer.MAX_VALUE}) {
            for (int value : new int[] {-1, 0, 1, 5, 20}) {
                Due.is("set(" + what + ", " + value + ")", x.set(what, value), Cameras.INVALID);
            }
        }
        Due.is("no change yet", x.count(6), 0);
        Due.is("set(0, 5)", x.set(0, 5), 6);
        Due.is("set(7, 5)", x.set(7, 5), 50);
    }

    private static void whatItWas() {
        Due.sentence("Returns what it was; INVALID_ARGUMENT if an argument is out of range; "
            + "NOT_POSSIBLE for 0 to 2 while frames are kept.");
        RowVotes x = new RowVotes();
        Due.is("the first value", x.set(3, 50), 40);
        Due.is("the same value again", x.set(3, 50), 50);
        Due.is("an error between", x.set(3, 256), Cameras.INVALID);
        Due.is("what was set at last", x.set(3, 1), 50);
        x.undo();
        x.undo();
        x.undo();
        Due.is("what has been undone", x.set(3, 1), 40);
        x.shoot();
        Due.is("what is out of range and not possible", x.set(2, 10), Cameras.INVALID);
        Due.is("what is not possible", x.set(2, 9), Cameras.IMPOSSIBLE);
    }

    private static void rowsInUse() {
        Due.sentence("`row`: 0 to the rows less 1");
        for (int rows : new int[] {1, 6, 9, 10}) {
            RowVotes x = new RowVotes();
            x.set(0, rows);
            x.shoot();
            x.shoot();
            for (int row : new int[] {0, rows - 1}) {
                Due.is("shows, row " + row + " of " + rows, x.shows(row, 0, 0), 20);
                Due.is("pixel, row " + row + " of " + rows, x.pixel(0, row, 0), 20);
                Due.is("edges, row " + row + " of " + rows, x.edges(0, row), 0);
                Due.is("vote, row " + row + " of " + rows, x.vote(0, 1, row), Cameras.NONE);
            }
            for (int row : new int[] {-1, rows, Integer.MIN_VALUE, Integer.MAX_VALUE}) {
                Due.is("shows, row " + row + " of " + rows, x.shows(row, 0, 0), Cameras.INVALID);
                Due.is("pixel, row " + row + " of " + rows, x.pixel(0, row, 0), Cameras.INVALID);
                Due.is("edges, row " + row + " of " + rows, x.edges(0, row), Cameras.INVALID);
                Due.is("vote, row " + row + " of " + rows, x.vote(0, 1, row), Cameras.INVALID);
            }
        }
    }

    private static void columnsInUse() {
        Due.sentence("`column`: 0 to the columns less 1");
        for (int columns : new int[] {4, 5, 12, 15, 16}) {
            RowVotes x = new RowVotes();
            x.set(1, columns);
            x.shoot();
            for (int column : new int[] {0, columns - 1}) {
                Due.is("shows, column " + column + " of " + columns, x.shows(0, column, 0), 20);
                Due.is("pixel, column " + column + " of " + columns, x.pixel(0, 0, column), 20);
            }
            for (int column : new int[] {-1, columns, Integer.MIN_VALUE, Integer.MAX_VALUE}) {
                Due.is("shows, column " + column + " of " + columns, x.shows(0, column, 0), Cameras.INVALID);
                Due.is("pixel, column " + column + " of " + columns, x.pixel(0, 0, column), Cameras.INVALID);
            }
        }
    }

    /** A thing of one column that goes on by a column a tick stands in row r where it is at the time r * delay. */
    private static void delayInUse() {
        Due.sentence("has the pixels of each row r as they are at the time s + r * delay");
        for (int delay : new int[] {0, 1, 2, 8, 9}) {
            RowVotes x = Cameras.of(10, 16, delay);
            x.thing(0, 9, 0, 10, 100, 200);
            x.shoot();
            for (int row = 0; row < 10; row++) {
                int column = (10 * row * delay + 49) / 100;
                Due.is("the thing in row " + row + ", delay " + delay, x.pixel(0, row, column), 200);
                Due.is("beside it", x.pixel(0, row, column + 1), 20);
            }
        }
    }

    private static void thresholdInUse() {
        Due.sentence("is an edge if its pixel and that of the column c - 1 differ by the threshold (as it is now) or more.");
        RowVotes x = new RowVotes();
        x.set(4, 100);
        x.thing(0, 0, 200, 0, 200, 139);
        x.thing(1, 1, 200, 0, 200, 140);
        x.thing(2, 2, 200, 0, 200, 141);
        x.shoot();
        Due.is("one less than the threshold", x.edges(0, 0), 0);
        Due.is("just the threshold", x.edges(0, 1), 20);
        Due.is("one more than the threshold", x.edges(0, 2), 20);
        Due.is("edges of the frame", x.frameOf(0, 2), 4);
        x.set(3, 39);
        Due.is("the threshold is less now", x.edges(0, 0), 20);
        Due.is("edges of the frame then", x.frameOf(0, 2), 6);
        x.set(3, 42);
        Due.is("the threshold is greater now", x.edges(0, 2), 0);
        x = new RowVotes();
        x.set(4, 100);
        x.thing(0, 0, 200, 0, 200, 61);
        x.thing(1, 1, 200, 0, 200, 60);
        x.thing(2, 2, 200, 0, 200, 59);
        x.shoot();
        Due.is("darker by one less", x.edges(0, 0), 0);
        Due.is("darker by just the threshold", x.edges(0, 1), 20);
        Due.is("darker by one more", x.edges(0, 2), 20);
        extremeThresholds();
    }

    private static void extremeThresholds() {
        RowVotes x = new RowVotes();
        x.set(4, 0);
        x.thing(0, 0, 200, 0, 200, 1);
        x.thing(1, 1, 200, 0, 200, 254);
        x.thing(2, 2, 200, 0, 200, 255);
        x.thing(3, 3, 200, 0, 200, 0);
        x.shoot();
        x.set(3, 1);
        Due.is("threshold 1, a difference of 1", x.edges(0, 0), 20);
        Due.is("threshold 1, no difference", x.edges(0, 3), 0);
        x.set(3, 2);
        Due.is("threshold 2, a difference of 1", x.edges(0, 0), 0);
        x.set(3, 254);
        Due.is("threshold 254, a difference of 254", x.edges(0, 1), 20);
        x.set(3, 255);
        Due.is("threshold 255, a difference of 254", x.edges(0, 1), 0);
        Due.is("threshold 255, a difference of 255", x.edges(0, 2), 20);
    }

    private static void groundInUse() {
        Due.sentence("without any it shows the ground.");
        RowVotes x = new RowVotes();
        x.thing(0, 0, 0, 0, 100, 7);
        for (int ground : new int[] {0, 1, 20, 254, 255}) {
            x.set(4, ground);
            Due.is("below the thing", x.shows(1, 0, 0), ground);
            Due.is("beside the thing", x.shows(0, 1, 0), ground);
            Due.is("in the thing", x.shows(0, 0, 0), 7);
        }
    }

    private static void dimInUse() {
        Due.sentence("If the lamp is dark at t, this is multiplied by the dim and divided by 100, rounded down.");
        int[][] due = {{255, 0, 0}, {255, 1, 2}, {99, 1, 0}, {100, 1, 1}, {101, 1, 1}, {1, 50, 0}, {2, 50, 1}, {3, 50, 1},
            {1, 99, 0}, {2, 99, 1}, {255, 99, 252}, {1, 100, 1}, {255, 100, 255}, {0, 100, 0}, {20, 33, 6}};
        for (int[] each : due) {
            RowVotes x = new RowVotes();
            Cameras.lamp(x, 2, 1, each[1]);
            x.set(4, each[0]);
            x.thing(1, 1, 0, 0, 100, each[0]);
            Due.is("the ground " + each[0] + " by " + each[1], x.shows(0, 0, 0), each[2]);
            Due.is("a thing of " + each[0] + " by " + each[1], x.shows(1, 0, 0), each[2]);
            Due.is("what is not dark", x.shows(1, 0, 1), each[0]);
        }
    }

    private static void framesKept() {
        Due.sentence("The settings 0 to 2 cannot be set while frames are kept.");
        for (int frames = 0; frames <= 6; frames++) {
            RowVotes x = new RowVotes();
            for (int i = 0; i < frames; i++) {
                x.shoot();
            }
            for (int what = 0; what <= 2; what++) {
                String call = "setting " + what + " with " + frames + " frames";
                Due.is(call, x.set(what, 4), frames == 0 ? FIRST[what] : Cameras.IMPOSSIBLE);
                Due.is(call + ", then", x.count(10 + what), frames == 0 ? 4 : FIRST[what]);
            }
            for (int what = 3; what <= 7; what++) {
                Due.is("setting " + what + " with " + frames + " frames", x.set(what, 4), FIRST[what]);
            }
        }
    }

    /** Frames go and come by forget, by undo and by play. */
    private static void framesKeptByOtherWays() {
        Due.sentence("NOT_POSSIBLE for 0 to 2 while frames are kept.");
        RowVotes x = new RowVotes();
        x.shoot();
        x.shoot();
        x.forget(0);
        Due.is("one of two is forgotten", x.set(0, 5), Cameras.IMPOSSIBLE);
        x.forget(0);
        Due.is("both are forgotten", x.set(0, 5), 6);
        x.undo();
        x.undo();
        Due.is("one is back by undo", x.set(0, 5), Cameras.IMPOSSIBLE);
        x.undo();
        x.undo();
        Due.is("none is there by undo, but one", x.set(2, 5), Cameras.IMPOSSIBLE);
        x.forget(0);
        Due.is("it is forgotten", x.set(2, 5), 1);
        Cameras.write(x, "s;");
        x.play();
        Due.is("one is taken by play", x.set(1, 5), Cameras.IMPOSSIBLE);
        x.undo();
        Due.is("play is undone", x.set(1, 5), 12);
    }

    private static void fewerRowsLeaveAll() {
        Due.sentence("Fewer rows leave things and blinded rows as they are;");
        RowVotes x = new RowVotes();
        x.set(0, 10);
        x.thing(2, 9, 0, 0, 1600, 200);
        x.thing(3, 3, 0, 0, 1600, 90);
        x.blind(3, 1);
        x.blind(9, 1);
        x.set(0, 3);
        for (int round = 0; round < 2; round++) {
            Due.is("the top row", x.thingOf(0, 0), 2);
            Due.is("the bottom row", x.thingOf(0, 1), 9);
            Due.is("the other top row", x.thingOf(1, 0), 3);
            Due.is("things", x.count(0), 2);
            Due.is("row 3 is blinded", x.rowOf(3, 0), 1);
            Due.is("row 9 is blinded", x.rowOf(9, 0), 1);
            Due.is("rows that are blinded", x.count(3), 2);
            Due.is("the last of three rows", x.shows(2, 0, 0), 200);
            x.set(0, 1);
            x.set(0, 10);
        }
        Due.is("row 3 shows the other thing", x.shows(3, 0, 0), 90);
        Due.is("row 9 shows the thing", x.shows(9, 0, 0), 200);
        x.set(0, 3);
        Due.is("a row that there is not is blinded no more", x.blind(9, 0), 1);
        Due.is("and blinded again", x.blind(9, 1), 2);
    }

    private static void fewerRowsNotLookedAt() {
        Due.sentence("rows that there are not are not looked at.");
        RowVotes x = new RowVotes();
        x.thing(2, 4, 200, 0, 100, 200);
        x.blind(3, 1);
        int[] blindedRows = {0, 0, 0, 8, 8};
        int[] edges = {0, 0, 2, 2, 4};
        int[] fits = {1, 3, 7, 7, 23};
        for (int rows = 1; rows <= 5; rows++) {
            x.set(0, rows);
            x.shoot();
            Due.is("blinded ones of " + rows + " rows", x.frameOf(0, 1), blindedRows[rows - 1]);
            Due.is("edges in " + rows + " rows", x.frameOf(0, 2), edges[rows - 1]);
            Due.is("rows that fit, of " + rows, x.fitting(0), fits[rows - 1]);
            Due.is("motions by " + rows + " rows", x.motions(0, 0) == 735 ? 1 : 0, rows < 3 ? 1 : 0);
            x.set(4, 21);
            Due.is("no row fits, of " + rows, x.fitting(0), 0);
            Due.is("no motion fits, of " + rows, x.motions(0, 0), 0);
            x.undo();
            x.forget(0);
        }
    }

    /** The rows 0 to 2 go by 1, the rows 3 and 4 by 2, the row 5 by nothing. */
    private static void fewerRowsVotes() {
        Due.sentence("Fewer rows leave things and blinded rows as they are; rows that there are not are not looked at.");
        int[] votersFor2 = {0, 0, 0, 8, 24, 24};
        for (int rows = 1; rows <= 6; rows++) {
            RowVotes x = Cameras.edges(rows, new int[] {0, 2, 3, 4}, new int[] {3, 4, 3, 5}, new int[] {5, 9, 3, 3});
            int firsts = Math.min(7, (1 << rows) - 1);
            Due.is("who votes for 1, of " + rows, x.voters(0, 1, 1), firsts);
            Due.is("who votes for 2, of " + rows, x.voters(0, 1, 2), votersFor2[rows - 1]);
            Due.is("who votes for 0, of " + rows, x.voters(0, 1, 0), rows < 6 ? 0 : 32);
            Due.is("who dissents, of " + rows, x.dissent(0, 1), (1 << rows) - 1 - firsts);
            Due.is("the slant, of " + rows, x.slant(0), rows < 2 ? Cameras.NONE : 0);
            Due.is("the votes of a wait, of " + rows, x.bestWait(0, 1), Math.min(3, rows));
            Due.is("who is judged, of " + rows, x.judge(0, 1), rows);
            Due.is("the row behind the last one", x.rowOf(rows, 1) + x.rowOf(rows, 2), 0);
        }
    }

    /** Nothing is left of the rows that earlier frames had. */
    private static void fewerRowsThanFramesHad() {
        Due.sentence("rows that there are not are not looked at.");
        RowVotes x = Cameras.of(10, 16, 0);
        x.set(4, 0);
        Cameras.edge(x, 0, 9, 3, 0);
        for (int i = 0; i < 5; i++) {
            x.shoot();
        }
        for (int i = 0; i < 5; i++) {
            x.forget(0);
        }
        for (int rows = 9; rows >= 1; rows--) {
            int all = (1 << rows) - 1;
            x.set(0, rows);
            x.shoot();
            x.shoot();
            Due.is("edges of " + rows, x.frameOf(1, 2), rows);
            Due.is("blinded ones of " + rows, x.frameOf(1, 1), 0);
            Due.is("who votes, of " + rows, x.voters(0, 1, 0), all);
            Due.is("who is judged, of " + rows, x.judge(0, 1), rows);
            Due.is("the votes of a wait, of " + rows, x.bestWait(0, 1), rows);
            Due.is("the slant, of " + rows, x.slant(0), rows == 1 ? Cameras.NONE : 0);
            Due.is("rows that fit, of " + rows, x.fitting(1), all);
            Due.is("the row behind the last one", x.edges(0, rows), Cameras.INVALID);
            x.forget(0);
            x.forget(0);
        }
        fitsBlackGround();
    }

    /** With the ground 0 a row that was never seen would fit, if it were looked at. */
    private static void fitsBlackGround() {
        for (int rows = 1; rows <= 10; rows++) {
            RowVotes x = Cameras.of(rows, 4, 0);
            x.set(4, 0);
            x.shoot();
            Due.is("black rows that fit, of " + rows, x.fitting(0), (1 << rows) - 1);
            x.set(4, 1);
            Due.is("no row fits, of " + rows, x.fitting(0), 0);
        }
    }

    private static void fewerColumnsThanFramesHad() {
        Due.sentence("`column`: 0 to the columns less 1");
        RowVotes x = Cameras.of(2, 16, 0);
        x.thing(0, 1, 100, 0, 100, 200);
        for (int i = 0; i < 3; i++) {
            x.thing(0, 1, 500 + 400 * i, 0, 100, 200);
        }
        for (int columns = 16; columns >= 4; columns--) {
            x.set(1, columns);
            x.shoot();
            x.shoot();
            // the edges are 1, 2, 5, 6, 9, 10, 13 and 14
            int edges = 0x6666 & ((1 << columns) - 1);
            Due.is("edges in " + columns + " columns", x.edges(1, 0), edges);
            Due.is("edges of both rows of " + columns + " columns", x.frameOf(1, 2), 2 * Integer.bitCount(edges));
            Due.is("the rows fit", x.fitting(1), 3);
            Due.is("the column behind the last one", x.pixel(1, 0, columns), Cameras.INVALID);
            x.forget(0);
            x.forget(0);
        }
    }
}
