/** Boundary cases of the lamp and of frames, promises 8 to 13: each sentence of the document has its own test. */
public final class BoundaryFramesTest {
    public static void main(String[] args) {
        lampIsDark();
        lampWithoutPeriod();
        lampWithoutDarkTicks();
        lampAsManyDarkTicks();
        lampNow();
        rowsLookLater();
        rowsLookLaterLamp();
        framesAtTheEndOfTime();
        rowsWithoutPixels();
        frameKeeps();
        frameKeepsBlinded();
        latestFive();
        droppedAsForgotten();
        droppedOverAgain();
        forgotten();
        forgottenOfFewer();
        forgottenAll();
        framesTaken();
        numbersOfFrames();
        whatOfAFrame();
        blindedOfThoseThatThereAre();
        edgesOfAFrame();
        pixelOfBlinded();
        edgesOfBlinded();
        columnZeroIsNoEdge();
        lastColumnIsAnEdge();
        ticks();
        endOfTime();
        Due.end();
    }

    private static void lampIsDark() {
        Due.sentence("The lamp is dark at a time t if its period is not 0 and t mod its period is less than its dark ticks.");
        RowVotes x = new RowVotes();
        Cameras.lamp(x, 7, 3, 0);
        int[] times = {0, 1, 2, 3, 4, 5, 6, 7, 8, 9, 10, 13, 14, 16, 17, 19992, 19993, 19998, 19999, 20000};
        for (int time : times) {
            Due.is("at " + time, x.shows(0, 0, time), time % 7 < 3 ? 0 : 20);
        }
        for (int darkTicks = 0; darkTicks <= 8; darkTicks++) {
            x.set(6, darkTicks);
            Due.is(darkTicks + " dark ticks, at 0", x.shows(0, 0, 0), darkTicks > 0 ? 0 : 20);
            Due.is(darkTicks + " dark ticks, at 6", x.shows(0, 0, 6), darkTicks > 6 ? 0 : 20);
            Due.is(darkTicks + " dark ticks, at 7", x.shows(0, 0, 7), darkTicks > 0 ? 0 : 20);
        }
    }

    private static void lampWithoutPeriod() {
        Due.sentence("5 the period of the lamp (0 to 20; 0: it is never dark)");
        RowVotes x = new RowVotes();
        Cameras.lamp(x, 0, 20, 0);
        for (int time : new int[] {0, 1, 19, 20, 19999, 20000}) {
            Due.is("period 0, at " + time, x.shows(0, 0, time), 20);
        }
        Due.is("period 0, now", x.count(5), 0);
        x.shoot();
        Due.is("period 0, in a frame", x.pixel(0, 0, 0), 20);
        x.set(5, 1);
        Due.is("period 1, at 0", x.shows(0, 0, 0), 0);
        Due.is("period 1, at 20000", x.shows(0, 0, 20000), 0);
        Due.is("period 1, now", x.count(5), 1);
        x.shoot();
        Due.is("period 1, in a frame", x.pixel(1, 0, 0), 0);
        x.set(5, 0);
        Due.is("period 0 again, now", x.count(5), 0);
    }

    private static void lampWithoutDarkTicks() {
        Due.sentence("t mod its period is less than its dark ticks");
        for (int period : new int[] {1, 2, 19, 20}) {
            RowVotes x = new RowVotes();
            Cameras.lamp(x, period, 0, 0);
            Due.is("no dark ticks of " + period + ", at 0", x.shows(0, 0, 0), 20);
            Due.is("no dark ticks of " + period + ", at 20", x.shows(0, 0, 20), 20);
            Due.is("no dark ticks of " + period + ", now", x.count(5), 0);
            x.set(6, 1);
            Due.is("a dark tick of " + period + ", at 0", x.shows(0, 0, 0), 0);
            Due.is("a dark tick of " + period + ", at 1", x.shows(0, 0, 1), period == 1 ? 0 : 20);
            Due.is("a dark tick of " + period + ", at the period less 1", x.shows(0, 0, period - 1), period == 1 ? 0 : 20);
            Due.is("a dark tick of " + period + ", at the period", x.shows(0, 0, period), 0);
            Due.is("a dark tick of " + period + ", now", x.count(5), 1);
        }
    }

    private static void lampAsManyDarkTicks() {
        Due.sentence("t mod its period is less than its dark ticks");
        for (int period : new int[] {1, 2, 5, 19, 20}) {
            RowVotes x = new RowVotes();
            for (int darkTicks = period - 1; darkTicks <= Math.min(20, period + 1); darkTicks++) {
                Cameras.lamp(x, period, darkTicks, 0);
                int last = darkTicks < period ? 20 : 0;
                String of = darkTicks + " dark ticks of " + period;
                Due.is(of + ", the last tick", x.shows(0, 0, period - 1), last);
                Due.is(of + ", the first tick again", x.shows(0, 0, period), darkTicks > 0 ? 0 : 20);
                Due.is(of + ", the last tick again", x.shows(0, 0, 2 * period - 1), last);
            }
        }
    }

    private static void lampNow() {
        Due.sentence("5: 1 if the lamp is dark now, otherwise 0");
        RowVotes x = new RowVotes();
        Cameras.lamp(x, 20, 2, 100);
        for (int time = 0; time <= 22; time++) {
            Cameras.passTo(x, time);
            Due.is("at " + time, x.count(5), time % 20 < 2 ? 1 : 0);
        }
        Cameras.passTo(x, 19999);
        Due.is("at 19999", x.count(5), 0);
        x.pass(1);
        Due.is("at 20000", x.count(5), 1);
    }

    private static void rowsLookLater() {
        Due.sentence("A frame that is taken at a time s has the pixels of each row r as they are at the time s + r * delay "
            + "(things move on as they do at s)");
        RowVotes x = Cameras.of(10, 16, 9);
        x.thing(0, 9, 49, 1, 50, 200);
        x.thing(0, 9, 500, -100, 100, 210);
        x.shoot();
        for (int row = 0; row < 10; row++) {
            int left = 49 + 9 * row;
            int column = (left + 49) / 100;
            boolean seen = left + 50 > 100 * column + 50;
            Due.is("the first thing in row " + row, x.pixel(0, row, column), seen ? 200 : 20);
            Due.is("the second thing in row " + row, x.pixel(0, row, 5), row == 0 ? 210 : 20);
        }
        x.turn(0, 0);
        x.turn(1, 0);
        Due.is("what it had does not turn, row 1", x.pixel(0, 1, 1), 20);
        Due.is("what it had does not turn, row 6", x.pixel(0, 6, 1), 200);
        x.shoot();
        Due.is("at rest: the row 9 is as the row 0", x.pixel(1, 9, 5), 210);
        Due.is("at rest: the row 6 is as the row 0", x.pixel(1, 6, 1), 20);
    }

    private static void rowsLookLaterLamp() {
        Due.sentence("as they are at the time s + r * delay");
        for (int delay : new int[] {0, 1, 3, 9}) {
            RowVotes x = Cameras.of(10, 4, delay);
            Cameras.lamp(x, 10, 3, 50);
            x.pass(8);
            x.shoot();
            for (int row = 0; row < 10; row++) {
                int due = (8 + row * delay) % 10 < 3 ? 10 : 20;
                Due.is("delay " + delay + ", row " + row, x.pixel(0, row, 3), due);
            }
        }
    }

    /** There are times beyond 20000 for the rows of a frame and for bestWait, though not for shows and pass. */
    private static void framesAtTheEndOfTime() {
        Due.sentence("as they are at the time s + r * delay");
        RowVotes x = Cameras.of(10, 4, 9);
        x.thing(0, 9, -19985, 1, 100, 200);
        Cameras.lamp(x, 20, 1, 0);
        Cameras.passTo(x, 20000);
        Due.is("it is taken at the end of time", x.shoot(), 1);
        Due.is("its time", x.frameOf(0, 0), 20000);
        Due.is("row 0 at 20000, when the lamp is dark", x.pixel(0, 0, 0), 0);
        for (int row = 1; row < 10; row++) {
            String of = "row " + row + " at " + (20000 + 9 * row);
            Due.is(of + ", from " + (15 + 9 * row), x.pixel(0, row, 0), row <= 3 ? 200 : 20);
            Due.is(of + ", the column 1", x.pixel(0, row, 1), row <= 3 ? 20 : 200);
        }
        Due.is("all its rows fit", x.fitting(0), 1023);
        Due.is("the time stays", x.count(2), 20000);
    }

    private static void rowsWithoutPixels() {
        Due.sentence("but for rows that are blinded, which have none.");
        RowVotes x = new RowVotes();
        x.blind(0, 1);
        x.blind(5, 1);
        x.shoot();
        for (int row = 0; row < 6; row++) {
            int none = row == 0 || row == 5 ? Cameras.NONE : 20;
            Due.is("the first pixel of row " + row, x.pixel(0, row, 0), none);
            Due.is("the last pixel of row " + row, x.pixel(0, row, 11), none);
        }
    }

    private static void frameKeeps() {
        Due.sentence("A frame keeps its time, its pixels and which rows were blinded.");
        RowVotes x = new RowVotes();
        x.thing(0, 9, 300, 0, 100, 200);
        x.pass(7);
        x.shoot();
        x.turn(0, 100);
        x.pass(3);
        x.thing(0, 9, 0, 0, 1600, 90);
        Cameras.lamp(x, 1, 1, 0);
        x.set(4, 255);
        x.set(3, 255);
        Due.is("its time", x.frameOf(0, 0), 7);
        Due.is("a pixel of the thing", x.pixel(0, 0, 3), 200);
        Due.is("a pixel of the ground", x.pixel(0, 0, 4), 20);
        Due.is("the last pixel", x.pixel(0, 5, 11), 20);
        for (int i = 0; i < 4; i++) {
            x.shoot();
        }
        Due.is("its time, with four behind it", x.frameOf(0, 0), 7);
        Due.is("a pixel of the thing, with four behind it", x.pixel(0, 0, 3), 200);
        Due.is("a pixel of the last one", x.pixel(4, 0, 3), 0);
    }

    private static void frameKeepsBlinded() {
        Due.sentence("A frame keeps its time, its pixels and which rows were blinded.");
        RowVotes x = new RowVotes();
        x.thing(0, 9, 300, 0, 100, 200);
        x.shoot();
        x.blind(2, 1);
        x.shoot();
        x.blind(3, 1);
        x.blind(2, 0);
        x.shoot();
        x.blind(3, 0);
        int[] due = {0, 4, 8};
        for (int frame = 0; frame < 3; frame++) {
            Due.is("blinded rows of " + frame, x.frameOf(frame, 1), due[frame]);
            Due.is("row 2 of " + frame, x.edges(frame, 2), frame == 1 ? Cameras.NONE : 24);
            Due.is("row 3 of " + frame, x.pixel(frame, 3, 3), frame == 2 ? Cameras.NONE : 200);
        }
    }

    private static void latestFive() {
        Due.sentence("The latest 5 frames are kept, numbered from 0, the oldest one first; when a sixth one is taken, "
            + "the oldest one is dropped, as if it was forgotten.");
        RowVotes x = new RowVotes();
        for (int taken = 1; taken <= 12; taken++) {
            int kept = Math.min(5, taken);
            Due.is("kept of " + taken, x.shoot(), kept);
            Due.is("count(1) of " + taken, x.count(1), kept);
            Due.is("count(4) of " + taken, x.count(4), taken);
            for (int frame = 0; frame < kept; frame++) {
                Due.is("time of " + frame + " of " + taken, x.frameOf(frame, 0), taken - kept + frame);
            }
            Due.is("none behind them", x.frameOf(kept, 0), Cameras.INVALID);
            x.pass(1);
        }
    }

    /** What is dropped by a sixth frame is back by undo, and the sixth one is gone then. */
    private static void droppedAsForgotten() {
        Due.sentence("the oldest one is dropped, as if it was forgotten");
        RowVotes x = new RowVotes();
        x.thing(0, 9, 0, 100, 100, 200);
        for (int i = 0; i < 5; i++) {
            x.blind(i, 1);
            x.shoot();
            x.pass(1);
        }
        Due.is("the oldest one of five", x.frameOf(0, 1), 1);
        Due.is("its thing", x.pixel(0, 5, 5), 200);
        Due.is("a sixth one", x.shoot(), 5);
        Due.is("the oldest one then", x.frameOf(0, 1), 3);
        Due.is("its thing", x.pixel(0, 5, 6), 200);
        Due.is("the latest one then", x.frameOf(4, 0), 5);
        Due.is("its thing", x.pixel(4, 5, 10), 200);
        Due.is("undo", x.undo(), 3);
        Due.is("the oldest one is back", x.frameOf(0, 1), 1);
        Due.is("its thing is back", x.pixel(0, 5, 5), 200);
        Due.is("and what is beside it", x.pixel(0, 5, 6), 20);
        Due.is("the latest one is back", x.frameOf(4, 0), 4);
        Due.is("there are five", x.count(1), 5);
        Due.is("five were taken", x.count(4), 5);
    }

    /** The frame that is taken in place of one that was dropped has nothing of it. */
    private static void droppedOverAgain() {
        Due.sentence("The latest 5 frames are kept");
        RowVotes x = Cameras.of(2, 4, 0);
        x.thing(0, 1, 0, 100, 100, 200);
        for (int i = 0; i < 5; i++) {
            x.shoot();
        }
        x.blind(1, 1);
        x.pass(2);
        for (int i = 0; i < 5; i++) {
            x.shoot();
            Due.is("the latest one", x.pixel(4, 0, 2), 200);
            Due.is("what it had been before", x.pixel(4, 0, 0), 20);
            Due.is("its blinded row", x.pixel(4, 1, 0), Cameras.NONE);
            Due.is("the oldest one", x.frameOf(0, 1), i < 4 ? 0 : 2);
        }
        x.blind(1, 0);
        x.shoot();
        Due.is("a row that is blinded no more", x.pixel(4, 1, 2), 200);
        Due.is("a row that was blinded", x.pixel(3, 1, 2), Cameras.NONE);
    }

    private static void forgotten() {
        Due.sentence("When a frame is forgotten, the numbers of those behind it become less by 1.");
        for (int gone = 0; gone < 5; gone++) {
            RowVotes x = new RowVotes();
            for (int i = 0; i < 5; i++) {
                x.shoot();
                x.pass(1);
            }
            Due.is("forget(" + gone + ")", x.forget(gone), 4);
            for (int frame = 0; frame < 4; frame++) {
                Due.is("time of " + frame + " without " + gone, x.frameOf(frame, 0), frame < gone ? frame : frame + 1);
            }
            Due.is("there is no frame 4 any more", x.frameOf(4, 0), Cameras.INVALID);
            Due.is("a frame is taken", x.shoot(), 5);
            Due.is("it is the last one", x.frameOf(4, 0), 5);
            Due.is("the oldest one is still there", x.frameOf(0, 0), gone == 0 ? 1 : 0);
        }
    }

    /** One of some frames is forgotten, then there are taken as many as are kept; each has another ground and another time. */
    private static void forgottenOfFewer() {
        Due.sentence("When a frame is forgotten, the numbers of those behind it become less by 1.");
        for (int frames = 1; frames <= 5; frames++) {
            for (int gone = 0; gone < frames; gone++) {
                RowVotes x = Cameras.of(2, 4, 0);
                for (int taken = 0; taken <= 5; taken++) {
                    if (taken == frames) {
                        Due.is("forget(" + gone + ") of " + frames, x.forget(gone), frames - 1);
                    }
                    x.set(4, 100 + taken);
                    x.shoot();
                    x.pass(1);
                }
                for (int frame = 0; frame < 5; frame++) {
                    int due = frame < gone ? frame : frame + 1;
                    String of = frame + ", " + gone + " of " + frames + " was forgotten";
                    Due.is("time of " + of, x.frameOf(frame, 0), due);
                    Due.is("first pixel of " + of, x.pixel(frame, 0, 0), 100 + due);
                    Due.is("last pixel of " + of, x.pixel(frame, 1, 3), 100 + due);
                }
            }
        }
    }

    private static void forgottenAll() {
        Due.sentence("Returns how many frames are left; INVALID_ARGUMENT.");
        RowVotes x = new RowVotes();
        Due.is("without frames", x.forget(0), Cameras.INVALID);
        for (int i = 0; i < 5; i++) {
            x.shoot();
        }
        for (int left = 4; left >= 0; left--) {
            Due.is("forget(" + (left + 1) + ")", x.forget(left + 1), Cameras.INVALID);
            Due.is("forget(-1)", x.forget(-1), Cameras.INVALID);
            Due.is("forget(" + left + ")", x.forget(left), left);
        }
        Due.is("none is left", x.forget(0), Cameras.INVALID);
        Due.is("MIN", x.forget(Integer.MIN_VALUE), Cameras.INVALID);
        Due.is("MAX", x.forget(Integer.MAX_VALUE), Cameras.INVALID);
    }

    private static void framesTaken() {
        Due.sentence("4: frames taken so far");
        RowVotes x = new RowVotes();
        Due.is("none", x.count(4), 0);
        for (int i = 1; i <= 6; i++) {
            x.shoot();
            Due.is("taken", x.count(4), i);
        }
        x.forget(0);
        Due.is("one is forgotten", x.count(4), 6);
        x.undo();
        x.undo();
        Due.is("one is undone", x.count(4), 5);
        x.shoot();
        Due.is("and taken again", x.count(4), 6);
    }

    /** All that asks a frame by its number, in each number of frames. */
    private static void numbersOfFrames() {
        Due.sentence("If there is no thing, row, column or frame with a certain number, this is INVALID_ARGUMENT.");
        RowVotes x = new RowVotes();
        for (int frames = 0; frames <= 5; frames++) {
            for (int number : new int[] {-1, frames, Integer.MIN_VALUE, Integer.MAX_VALUE}) {
                String of = " " + number + " of " + frames;
                Due.is("forget" + of, x.forget(number), Cameras.INVALID);
                Due.is("frameOf" + of, x.frameOf(number, 0), Cameras.INVALID);
                Due.is("pixel" + of, x.pixel(number, 0, 0), Cameras.INVALID);
                Due.is("edges" + of, x.edges(number, 0), Cameras.INVALID);
                Due.is("slant" + of, x.slant(number), Cameras.INVALID);
                Due.is("slantSpeed" + of, x.slantSpeed(number), Cameras.INVALID);
                Due.is("bestWait" + of, x.bestWait(number, 0), Cameras.INVALID);
                Due.is("fitting" + of, x.fitting(number), Cameras.INVALID);
            }
            for (int number = 0; number < frames; number++) {
                Due.is("frameOf " + number + " of " + frames, x.frameOf(number, 0), 0);
                Due.is("pixel " + number + " of " + frames, x.pixel(number, 0, 0), 20);
                Due.is("edges " + number + " of " + frames, x.edges(number, 0), 0);
                Due.is("slant " + number + " of " + frames, x.slant(number), Cameras.NONE);
                Due.is("slantSpeed " + number + " of " + frames, x.slantSpeed(number), Cameras.NONE);
                Due.is("bestWait " + number + " of " + frames, x.bestWait(number, 0), Cameras.NONE);
                Due.is("fitting " + number + " of " + frames, x.fitting(number), 63);
            }
            x.shoot();
        }
    }

    private static void whatOfAFrame() {
        Due.sentence("- `what`: 0: its time; 1: the set of rows that were blinded, of those that there are; "
            + "2: how many edges it has");
        RowVotes x = new RowVotes();
        x.thing(0, 0, 200, 0, 200, 200);
        x.blind(5, 1);
        x.pass(200);
        x.shoot();
        int[] due = {200, 32, 2};
        for (int what = 0; what <= 2; what++) {
            Due.is("frameOf(0, " + what + ")", x.frameOf(0, what), due[what]);
        }
        for (int what : new int[] {-1, 3, 4, Integer.MIN_VALUE, Integer.MAX_VALUE}) {
            Due.is("frameOf(0, " + what + ")", x.frameOf(0, what), Cameras.INVALID);
        }
        Due.is("frameOf(1, 3)", x.frameOf(1, 3), Cameras.INVALID);
    }

    private static void blindedOfThoseThatThereAre() {
        Due.sentence("1: the set of rows that were blinded, of those that there are");
        for (int rows = 1; rows <= 10; rows++) {
            RowVotes x = Cameras.of(rows, 4, 0);
            x.shoot();
            for (int row = 0; row < 10; row++) {
                x.blind(row, 1);
            }
            x.shoot();
            x.blind(rows - 1, 0);
            x.shoot();
            Due.is("none of " + rows, x.frameOf(0, 1), 0);
            Due.is("all of " + rows, x.frameOf(1, 1), (1 << rows) - 1);
            Due.is("all but the last of " + rows, x.frameOf(2, 1), (1 << (rows - 1)) - 1);
        }
    }

    private static void edgesOfAFrame() {
        Due.sentence("2: how many edges it has");
        RowVotes x = Cameras.of(10, 16, 0);
        for (int i = 0; i < 4; i++) {
            x.thing(0, 9, 100 + 400 * i, 0, 100, 200);
        }
        x.shoot();
        Due.is("eight in each of ten rows", x.frameOf(0, 2), 80);
        x.blind(0, 1);
        x.blind(9, 1);
        x.shoot();
        Due.is("two rows are blinded", x.frameOf(1, 2), 64);
        for (int row = 1; row < 9; row++) {
            x.blind(row, 1);
        }
        x.shoot();
        Due.is("all rows are blinded", x.frameOf(2, 2), 0);
        x.set(3, 181);
        Due.is("the threshold is too great", x.frameOf(0, 2), 0);
        x.set(3, 180);
        Due.is("the threshold is just met", x.frameOf(0, 2), 80);
    }

    private static void pixelOfBlinded() {
        Due.sentence("Returns the pixel; INVALID_ARGUMENT if an argument is out of range; NOT_FOUND if the row was blinded.");
        RowVotes x = new RowVotes();
        x.blind(5, 1);
        x.blind(6, 1);
        x.shoot();
        x.blind(5, 0);
        x.blind(4, 1);
        Due.is("the row before it", x.pixel(0, 4, 0), 20);
        Due.is("the blinded row", x.pixel(0, 5, 0), Cameras.NONE);
        Due.is("its last column", x.pixel(0, 5, 11), Cameras.NONE);
        Due.is("a column that there is not", x.pixel(0, 5, 12), Cameras.INVALID);
        Due.is("a column before the first one", x.pixel(0, 5, -1), Cameras.INVALID);
        Due.is("a blinded row that there is not", x.pixel(0, 6, 0), Cameras.INVALID);
        Due.is("a frame that there is not", x.pixel(1, 5, 0), Cameras.INVALID);
    }

    private static void edgesOfBlinded() {
        Due.sentence("Returns the set of columns; INVALID_ARGUMENT if an argument is out of range; "
            + "NOT_FOUND if the row was blinded.");
        RowVotes x = new RowVotes();
        x.thing(0, 9, 100, 0, 100, 200);
        x.blind(5, 1);
        x.blind(6, 1);
        x.shoot();
        x.blind(5, 0);
        x.blind(4, 1);
        Due.is("the row before it", x.edges(0, 4), 6);
        Due.is("the blinded row", x.edges(0, 5), Cameras.NONE);
        Due.is("a blinded row that there is not", x.edges(0, 6), Cameras.INVALID);
        Due.is("a frame that there is not", x.edges(1, 5), Cameras.INVALID);
        x.set(3, 255);
        Due.is("without edges", x.edges(0, 4), 0);
        Due.is("the blinded row, without edges", x.edges(0, 5), Cameras.NONE);
    }

    private static void columnZeroIsNoEdge() {
        Due.sentence("a column c (1 or more) is an edge");
        RowVotes x = new RowVotes();
        x.set(3, 1);
        x.thing(0, 0, 0, 0, 100, 200);
        x.thing(1, 1, 0, 0, 1600, 200);
        x.thing(2, 2, -100, 0, 100, 200);
        x.thing(3, 3, 100, 0, 1600, 200);
        x.shoot();
        Due.is("a thing in the column 0", x.edges(0, 0), 2);
        Due.is("a thing in all columns", x.edges(0, 1), 0);
        Due.is("a thing left of the column 0", x.edges(0, 2), 0);
        Due.is("a thing from the column 1", x.edges(0, 3), 2);
        Due.is("no thing", x.edges(0, 4), 0);
        Due.is("edges of the frame", x.frameOf(0, 2), 2);
    }

    private static void lastColumnIsAnEdge() {
        Due.sentence("a column c (1 or more) is an edge");
        for (int columns : new int[] {4, 5, 15, 16}) {
            RowVotes x = Cameras.of(3, columns, 0);
            Cameras.edge(x, 0, 0, columns - 2, 0);
            Cameras.edge(x, 1, 1, columns - 1, 0);
            Cameras.edge(x, 2, 2, columns, 0);
            x.shoot();
            Due.is("the last column but one of " + columns, x.edges(0, 0), 1 << (columns - 2));
            Due.is("the last column of " + columns, x.edges(0, 1), 1 << (columns - 1));
            Due.is("behind the last column of " + columns, x.edges(0, 2), 0);
        }
    }

    private static void ticks() {
        Due.sentence("- `ticks`: 1 to 200");
        RowVotes x = new RowVotes();
        for (int wrong : new int[] {0, -1, 201, 202, Integer.MIN_VALUE, Integer.MAX_VALUE}) {
            Due.is("pass(" + wrong + ")", x.pass(wrong), Cameras.INVALID);
            Due.is("the time then", x.count(2), 0);
        }
        Due.is("pass(1)", x.pass(1), 1);
        Due.is("pass(2)", x.pass(2), 3);
        Due.is("pass(199)", x.pass(199), 202);
        Due.is("pass(200)", x.pass(200), 402);
        Due.is("changes", x.count(6), 4);
    }

    private static void endOfTime() {
        Due.sentence("Returns the time then; INVALID_ARGUMENT if ticks is out of range; "
            + "LIMIT_REACHED if it would be greater than 20000.");
        RowVotes x = new RowVotes();
        Cameras.passTo(x, 19800);
        Due.is("200 ticks to the end", x.pass(200), 20000);
        Due.is("a tick beyond it", x.pass(1), Cameras.LIMIT);
        Due.is("200 ticks beyond it", x.pass(200), Cameras.LIMIT);
        Due.is("201 ticks beyond it", x.pass(201), Cameras.INVALID);
        Due.is("no ticks", x.pass(0), Cameras.INVALID);
        Due.is("MAX ticks", x.pass(Integer.MAX_VALUE), Cameras.INVALID);
        x.undo();
        Due.is("199 ticks to one short of it", x.pass(199), 19999);
        Due.is("two ticks", x.pass(2), Cameras.LIMIT);
        Due.is("the time then", x.count(2), 19999);
        Due.is("one tick", x.pass(1), 20000);
        x.undo();
        x.undo();
        Due.is("a tick", x.pass(1), 19801);
        Due.is("200 ticks", x.pass(200), Cameras.LIMIT);
        Due.is("199 ticks", x.pass(199), 20000);
    }
}
