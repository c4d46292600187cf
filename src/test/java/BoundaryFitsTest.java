/** Boundary cases of what fits and of count, promises 25 to 28: each sentence of the document has its own test. */
public final class BoundaryFitsTest {
    private static final int ALL_PERIODS = (1 << 21) - 1;

    public static void main(String[] args) {
        triedPositionsAndSpeeds();
        justTheTriedOnes();
        stepsTried();
        orderedByPositions();
        motionsWithoutFrames();
        motionsNone();
        motionsAll();
        motionsOfEachRowAndFrame();
        motionsOfBlindedRows();
        motionsOfAllElse();
        motionsForAllTimes();
        motionsOfSides();
        motionsOfRowsThatLookLater();
        motionsBehindAThingThatMoves();
        whatOfMotions();
        periodsFromZeroToTwenty();
        periodsWithoutFrames();
        periodsNoneAndAll();
        periodsOfBlindedRows();
        periodsOfAllElse();
        fittingNoneAndAll();
        fittingOfBlindedRows();
        fittingByOnePixel();
        whatIsCounted();
        settingsCounted();
        Due.end();
    }

    private static void due(String when, RowVotes x, int thing, int... answers) {
        for (int what = 0; what < answers.length; what++) {
            Due.is(when + ": motions(" + thing + ", " + what + ")", x.motions(thing, what), answers[what]);
        }
    }

    private static void dueNone(String when, RowVotes x, int thing) {
        due(when, x, thing, 0, Cameras.NONE, Cameras.NONE, Cameras.NONE, Cameras.NONE);
    }

    private static void dueAll(String when, RowVotes x, int thing) {
        due(when, x, thing, 735, -1000, -100, 2400, 100);
    }

    /** A thing of one column in the only row, seen at two times. */
    private static RowVotes seenAt(int position, int speed, int first, int second) {
        RowVotes x = Cameras.of(1, 16, 0);
        x.thing(0, 0, position, speed, 100, 200);
        x.pass(first);
        x.shoot();
        x.pass(second - first);
        x.shoot();
        return x;
    }

    private static void triedPositionsAndSpeeds() {
        Due.sentence("Tried are positions from -1000 to 2400, in steps of 100, with speeds from -100 to 100, in steps of 10,");
        int[][] found = {{2400, -100, 10, 20}, {2300, -100, 10, 20}, {2400, -90, 10, 20}, {-1000, 100, 12, 20},
            {-900, 100, 10, 20}, {-1000, 90, 12, 20}, {1500, -100, 1, 10}, {0, 100, 1, 10}, {1400, 10, 0, 10}};
        for (int[] m : found) {
            RowVotes x = seenAt(m[0], m[1], m[2], m[3]);
            due("found", x, 0, 1, m[0], m[1], m[0], m[1]);
        }
        int[][] missed = {{2500, -100, 10, 20}, {2400, -110, 10, 20}, {2500, -110, 10, 20}, {-1100, 100, 12, 20},
            {-1000, 110, 10, 20}, {-1100, 110, 12, 20}, {0, 110, 0, 10}, {1500, -110, 0, 10}};
        for (int[] m : missed) {
            RowVotes x = seenAt(m[0], m[1], m[2], m[3]);
            Due.is("the thing is in sight at first", x.frameOf(0, 2) > 0 ? 1 : 0, 1);
            Due.is("the thing is in sight then", x.frameOf(1, 2) > 0 ? 1 : 0, 1);
            dueNone("position " + m[0] + ", speed " + m[1], x, 0);
            Due.is("its own motion fits", x.fitting(0) + x.fitting(1), 2);
        }
    }

    /** With a frame at the time 0 the position alone matters, so all of the 21 speeds fit. */
    private static void justTheTriedOnes() {
        Due.sentence("Tried are positions from -1000 to 2400");
        for (int column = 0; column < 16; column++) {
            RowVotes x = Cameras.of(1, 16, 0);
            x.thing(0, 0, 100 * column, 0, 100, 200);
            x.shoot();
            due("in the column " + column, x, 0, 21, 100 * column, -100, 100 * column, 100);
        }
        RowVotes x = Cameras.of(1, 16, 0);
        x.thing(0, 0, 1600, 0, 100, 200);
        x.shoot();
        // out of sight are -1000 to -100 and 1600 to 2400, so 10 and 9 positions
        due("out of sight to the right", x, 0, 19 * 21, -1000, -100, 2400, 100);
        x.turn(0, -200);
        x.pass(10);
        x.forget(0);
        x.shoot();
        Due.is("where it is at the time 10", x.thingOf(0, 6), -400);
        Due.is("it fits out of sight to the left", x.fitting(0), 1);
    }

    private static void stepsTried() {
        Due.sentence("in steps of 100, with speeds from -100 to 100, in steps of 10,");
        RowVotes x = Cameras.of(1, 4, 0);
        // at 149 the columns 1 and 2 are seen, as from 100 on with this width
        x.thing(0, 0, 149, 0, 201, 200);
        x.shoot();
        Due.is("columns 1 and 2", x.edges(0, 0), 2 + 8);
        due("from 100, not from 149", x, 0, 21, 100, -100, 100, 100);
        x = Cameras.of(1, 4, 0);
        x.thing(0, 0, 151, 0, 99, 200);
        x.shoot();
        Due.is("no column", x.frameOf(0, 2), 0);
        // at each hundred from 0 to 300 a column would be seen of it
        due("out of sight", x, 0, 31 * 21, -1000, -100, 2400, 100);
        x = seenAt(100, 5, 0, 20);
        // 100 at first, 200 in 20 ticks: by 5, which is not tried
        Due.is("where it was", x.edges(1, 0), 4 + 8);
        dueNone("speed 5", x, 0);
        x = seenAt(100, 6, 0, 10);
        due("speed 6 of 10 ticks, as speed 10", x, 0, 1, 100, 10, 100, 10);
    }

    private static void orderedByPositions() {
        Due.sentence("ordered by positions, then by speeds;");
        RowVotes x = Cameras.of(1, 16, 0);
        x.thing(0, 0, 500, 0, 100, 200);
        x.pass(10);
        x.shoot();
        due("at 500 at the time 10", x, 0, 21, -500, 100, 1500, -100);
        x = Cameras.of(1, 16, 0);
        x.thing(0, 0, 500, 0, 100, 200);
        x.shoot();
        due("at 500 at the time 0", x, 0, 21, 500, -100, 500, 100);
        x = Cameras.of(1, 16, 0);
        x.thing(0, 0, -1000, 100, 100, 200);
        x.pass(10);
        x.shoot();
        due("at 0 at the time 10", x, 0, 21, -1000, 100, 1000, -100);
    }

    private static void motionsWithoutFrames() {
        Due.sentence("without frames all of them fit.");
        RowVotes x = new RowVotes();
        for (int thing = 0; thing < 4; thing++) {
            x.thing(thing, 9, 20000, 200, 100, 200);
            dueAll("without frames", x, thing);
        }
        x.shoot();
        x.set(4, 30);
        dueNone("with a frame", x, 0);
        x.forget(0);
        dueAll("it is forgotten", x, 0);
        x.undo();
        dueNone("and back", x, 0);
    }

    private static void motionsNone() {
        Due.sentence("Returns the number; INVALID_ARGUMENT if an argument is out of range; NOT_FOUND for 1 to 4 if none fits.");
        RowVotes x = Cameras.of(1, 4, 0);
        x.thing(0, 0, 100, 0, 100, 200);
        x.shoot();
        due("one column", x, 0, 21, 100, -100, 100, 100);
        x.set(4, 19);
        dueNone("another ground", x, 0);
        for (int what : new int[] {-1, 5, Integer.MIN_VALUE, Integer.MAX_VALUE}) {
            Due.is("motions(0, " + what + "), none fits", x.motions(0, what), Cameras.INVALID);
            Due.is("motions(1, " + what + ")", x.motions(1, what), Cameras.INVALID);
        }
        Due.is("motions(1, 1)", x.motions(1, 1), Cameras.INVALID);
        x.set(4, 20);
        due("the ground as it was", x, 0, 21, 100, -100, 100, 100);
    }

    private static void motionsAll() {
        Due.sentence("A motion fits a thing if, with another position (at the time 0) and another speed in place of its own,");
        RowVotes x = Cameras.of(2, 4, 0);
        x.thing(0, 0, 0, 0, 400, 100);
        x.thing(1, 1, 0, 0, 400, 20);
        x.thing(2, 9, 0, 0, 400, 200);
        x.thing(0, 0, -100, 0, 600, 90);
        x.shoot();
        dueAll("a thing that is covered", x, 0);
        dueAll("a thing that is as bright as the ground", x, 1);
        dueAll("a thing in rows that there are not", x, 2);
        // it has to cover all four columns: at -200, at -100 or at 0
        due("a thing that covers all", x, 3, 3 * 21, -200, -100, 0, 100);
    }

    private static void motionsOfEachRowAndFrame() {
        Due.sentence("each row that was not blinded of each kept frame would have the pixels that it has.");
        RowVotes x = Cameras.of(10, 16, 0);
        x.thing(9, 9, 500, 0, 100, 200);
        x.thing(0, 0, 500, 0, 100, 210);
        for (int i = 0; i < 4; i++) {
            x.shoot();
        }
        x.pass(10);
        x.shoot();
        due("the last row of the last frame", x, 0, 1, 500, 0, 500, 0);
        due("the first row of the last frame", x, 1, 1, 500, 0, 500, 0);
        x.forget(4);
        due("without the last frame", x, 0, 21, 500, -100, 500, 100);
        x.undo();
        for (int i = 0; i < 4; i++) {
            x.forget(0);
        }
        due("without all but the last frame", x, 0, 21, -500, 100, 1500, -100);
        x.pass(2);
        x.turn(1, 50);
        dueNone("another thing would not fit", x, 0);
    }

    private static void motionsOfBlindedRows() {
        Due.sentence("each row that was not blinded of each kept frame would have the pixels that it has.");
        RowVotes x = Cameras.of(2, 4, 0);
        x.thing(0, 0, 100, 0, 100, 200);
        x.blind(0, 1);
        x.shoot();
        dueAll("its row is blinded", x, 0);
        x.blind(0, 0);
        dueAll("its row was blinded then", x, 0);
        x.blind(1, 1);
        x.shoot();
        due("the other row was blinded", x, 0, 21, 100, -100, 100, 100);
        x.set(4, 21);
        dueNone("the ground of the rows that were not blinded", x, 0);
        x.undo();
        x.blind(0, 1);
        x.forget(1);
        x.forget(0);
        x.shoot();
        x.set(4, 21);
        dueAll("all rows were blinded, another ground", x, 0);
    }

    private static void motionsOfAllElse() {
        Due.sentence("and all else as it is now (all other things, the lamp, the ground)");
        RowVotes x = Cameras.of(1, 4, 0);
        x.thing(0, 0, 100, 0, 100, 200);
        x.thing(0, 0, 300, 0, 100, 90);
        x.shoot();
        due("as it was", x, 0, 21, 100, -100, 100, 100);
        x.set(4, 21);
        dueNone("another ground", x, 0);
        x.set(4, 20);
        Cameras.lamp(x, 1, 1, 99);
        dueNone("the lamp is dark", x, 0);
        x.set(7, 100);
        due("the lamp is dark, but not dimmed", x, 0, 21, 100, -100, 100, 100);
        x.thing(0, 0, 0, 0, 50, 1);
        due("another thing out of sight", x, 0, 21, 100, -100, 100, 100);
        x.thing(0, 0, 0, 0, 51, 1);
        dueNone("another thing in sight", x, 0);
        x.undo();
        x.thing(0, 0, 100, 0, 100, 200);
        // the new thing is seen in place of it; it may be there too, or where nothing is seen of it
        due("another thing in its place", x, 0, 735 - 2 * 21, -1000, -100, 2400, 100);
        x.pass(1);
        x.turn(1, 100);
        dueNone("another thing was elsewhere", x, 0);
    }

    private static void motionsForAllTimes() {
        Due.sentence("for all times, and all else as it is now");
        RowVotes x = Cameras.of(1, 16, 0);
        x.thing(0, 0, 100, 50, 100, 200);
        x.shoot();
        x.pass(10);
        x.shoot();
        x.turn(0, -30);
        x.pass(10);
        due("its motion until it was turned", x, 0, 1, 100, 50, 100, 50);
        x.shoot();
        dueNone("no motion fits both", x, 0);
        x.forget(0);
        due("its motion since it was turned", x, 0, 1, 900, -30, 900, -30);
        Due.is("it is what it has", x.thingOf(0, 2), 900);
    }

    /** A motion by which a side would just reach the middle of a column. */
    private static void motionsOfSides() {
        Due.sentence("would have the pixels that it has.");
        RowVotes x = Cameras.of(1, 16, 0);
        x.thing(0, 0, 0, 10, 100, 200);
        x.pass(5);
        x.shoot();
        // at 0, or at 50, but not at -50: with the speed 90 from -400, with -90 from 500
        due("at 50 at the time 5", x, 0, 21, -500, 100, 500, -90);
        x = Cameras.of(1, 16, 0);
        x.thing(0, 0, 0, 0, 150, 200);
        x.shoot();
        // from -100 to 50 nothing is seen, from 0 to 150 one column is
        due("from 0 to 150", x, 0, 21, 0, -100, 0, 100);
        x = Cameras.of(1, 16, 0);
        x.thing(0, 0, 0, 0, 151, 200);
        x.shoot();
        // from 0 to 151 two columns are seen, from -100 to 51 one is
        due("from 0 to 151", x, 0, 21, 0, -100, 0, 100);
        x = Cameras.of(1, 16, 0);
        x.thing(0, 0, -100, 0, 151, 200);
        x.shoot();
        due("from -100 to 51", x, 0, 21, -100, -100, -100, 100);
    }

    /** Four rows look at the times 3, 5, 7 and 9; another thing moves, and the lamp is dark for one of the rows. */
    private static void motionsOfRowsThatLookLater() {
        Due.sentence("each row that was not blinded of each kept frame would have the pixels that it has.");
        RowVotes x = Cameras.of(4, 16, 2);
        x.thing(0, 9, 300, 50, 100, 200);
        x.thing(0, 9, 1500, -50, 100, 90);
        Cameras.lamp(x, 5, 1, 50);
        x.pass(3);
        x.shoot();
        Due.is("row 0 is lit", x.pixel(0, 0, 4), 200);
        Due.is("row 1 is dark", x.pixel(0, 1, 5), 100);
        Due.is("the other thing in row 3", x.pixel(0, 3, 10), 90);
        // the columns 4, 5, 6 and 7, so behind 350, 450, 550 and 650, but not 100 farther: also 200 by 60, 300 by 40
        due("four times", x, 0, 3, 200, 60, 300, 50);
        x.blind(1, 1);
        x.pass(10);
        x.shoot();
        Due.is("row 1 is blinded at the time 15", x.pixel(1, 1, 0), Cameras.NONE);
        due("seven times", x, 0, 1, 300, 50, 300, 50);
        x.set(6, 2);
        due("the lamp is dark for two ticks", x, 0, 1, 300, 50, 300, 50);
        x.set(6, 3);
        dueNone("the lamp is dark for three ticks", x, 0);
    }

    /** The other thing, with the greater number, has come to the column 5 in 10 ticks. */
    private static void motionsBehindAThingThatMoves() {
        Due.sentence("for all times, and all else as it is now (all other things, the lamp, the ground)");
        RowVotes x = Cameras.of(1, 16, 0);
        x.thing(0, 0, 500, 0, 100, 200);
        x.thing(0, 0, 0, 50, 100, 90);
        x.pass(10);
        x.shoot();
        Due.is("only the other one is seen", x.edges(0, 0), 32 + 64);
        // for each speed one position behind it; 210 motions to the left of all columns and 190 to the right of them
        due("behind it or out of sight", x, 0, 21 + 210 + 190, -1000, -100, 2400, 100);
        due("the other one", x, 1, 21, -500, 100, 1500, -100);
        x.turn(1, 0);
        x.pass(10);
        x.shoot();
        Due.is("it has been there from the time 0 on, as it is now", x.thingOf(1, 2), 500);
        due("the other one, two times", x, 1, 1, 500, 0, 500, 0);
    }

    private static void whatOfMotions() {
        Due.sentence("- `what`: 0: how many; 1: the position of the first one; 2: its speed; "
            + "3: the position of the last one; 4: its speed");
        RowVotes x = Cameras.of(1, 16, 0);
        x.thing(0, 0, 700, 0, 100, 200);
        x.pass(20);
        x.shoot();
        // 700 less 20 times the speed: the speeds -80 to 80
        due("at 700 at the time 20", x, 0, 17, -900, 80, 2300, -80);
        for (int what : new int[] {-1, 5, 6, Integer.MIN_VALUE, Integer.MAX_VALUE}) {
            Due.is("motions(0, " + what + ")", x.motions(0, what), Cameras.INVALID);
        }
        Due.is("its position stays", x.thingOf(0, 2), 700);
        Due.is("its speed stays", x.thingOf(0, 3), 0);
    }

    /** Twenty rows of two frames that look at the times 0 to 19, with a lamp that is dark at 0 alone, or never. */
    private static RowVotes twentyTimes(int period, int darkTicks) {
        RowVotes x = Cameras.of(10, 4, 1);
        Cameras.lamp(x, period, darkTicks, 50);
        x.shoot();
        x.pass(10);
        x.shoot();
        return x;
    }

    private static void periodsFromZeroToTwenty() {
        Due.sentence("Tells which periods of the lamp, 0 to 20, fit.");
        RowVotes x = twentyTimes(20, 1);
        Due.is("20 alone", x.periods(), 1 << 20);
        x.pass(10);
        x.shoot();
        Due.is("20 alone, also then", x.periods(), 1 << 20);
        x = twentyTimes(19, 1);
        Due.is("19 alone", x.periods(), 1 << 19);
        x = twentyTimes(1, 1);
        Due.is("1 alone", x.periods(), 2);
        x = twentyTimes(2, 1);
        Due.is("2 alone", x.periods(), 4);
        x = twentyTimes(0, 1);
        Due.is("0 alone", x.periods(), 1);
        x.set(5, 20);
        Due.is("0 alone, whatever it is now", x.periods(), 1);
        x.set(6, 0);
        Due.is("no dark ticks", x.periods(), ALL_PERIODS);
        x = twentyTimes(20, 20);
        x.set(6, 20);
        Due.is("always dark", x.periods(), ALL_PERIODS - 1);
        x.set(6, 19);
        Due.is("19 dark ticks", x.periods(), ALL_PERIODS - 1 - (1 << 20));
        x.set(6, 1);
        Due.is("a dark tick", x.periods(), 2);
        periodsBeyond();
    }

    /** Dark at the time 0 alone of 0 to 20: a period of 21 would fit. */
    private static void periodsBeyond() {
        RowVotes x = twentyTimes(20, 1);
        x.set(5, 0);
        x.pass(1);
        x.shoot();
        Due.is("lit at 20", x.pixel(2, 9, 0), 20);
        Due.is("dark at 0, lit at 1 to 20", x.periods(), 0);
        x.forget(0);
        Due.is("lit at 10 to 20", x.periods(), 1);
    }

    private static void periodsWithoutFrames() {
        Due.sentence("A period of the lamp fits likewise, with all else as it is now.");
        RowVotes x = new RowVotes();
        Due.is("without frames", x.periods(), ALL_PERIODS);
        Cameras.lamp(x, 1, 1, 0);
        Due.is("without frames, dark", x.periods(), ALL_PERIODS);
        x.shoot();
        Due.is("with a frame", x.periods(), 2);
        x.forget(0);
        Due.is("it is forgotten", x.periods(), ALL_PERIODS);
    }

    private static void periodsNoneAndAll() {
        Due.sentence("Returns the set of periods.");
        RowVotes x = Cameras.of(1, 4, 0);
        x.shoot();
        Due.is("no dark ticks", x.periods(), ALL_PERIODS);
        x.set(6, 1);
        Due.is("lit at 0", x.periods(), 1);
        x.set(7, 100);
        Due.is("not dimmed", x.periods(), ALL_PERIODS);
        x.set(4, 19);
        Due.is("another ground", x.periods(), 0);
        x.set(4, 40);
        x.set(7, 50);
        Due.is("dimmed to what it was", x.periods(), ALL_PERIODS - 1);
        x.set(4, 41);
        Due.is("dimmed to what it was, rounded down", x.periods(), ALL_PERIODS - 1);
        x.set(4, 42);
        Due.is("dimmed to one more", x.periods(), 0);
        x.set(4, 39);
        Due.is("dimmed to one less", x.periods(), 0);
    }

    private static void periodsOfBlindedRows() {
        Due.sentence("A period of the lamp fits likewise");
        RowVotes x = Cameras.of(2, 4, 1);
        Cameras.lamp(x, 2, 1, 50);
        x.blind(0, 1);
        x.shoot();
        // lit at 1: all that are not dark then, so all but 1
        Due.is("row 0 is blinded", x.periods(), ALL_PERIODS - 2);
        x.blind(0, 0);
        Due.is("row 0 was blinded then", x.periods(), ALL_PERIODS - 2);
        x.blind(1, 1);
        x.shoot();
        Due.is("row 1 was blinded in the other one", x.periods(), ALL_PERIODS - 2 - 1);
        x.forget(0);
        Due.is("row 1 was blinded", x.periods(), ALL_PERIODS - 1);
        x.blind(0, 1);
        x.shoot();
        x.forget(0);
        Due.is("both were blinded", x.periods(), ALL_PERIODS);
    }

    private static void periodsOfAllElse() {
        Due.sentence("with all else as it is now.");
        RowVotes x = Cameras.of(2, 4, 0);
        x.thing(1, 1, 0, 0, 100, 100);
        x.set(6, 1);
        x.shoot();
        Due.is("as it was", x.periods(), 1);
        x.set(4, 40);
        Due.is("another ground", x.periods(), 0);
        x.set(4, 20);
        x.thing(0, 0, 0, 0, 51, 21);
        Due.is("another thing", x.periods(), 0);
        x.undo();
        x.thing(1, 1, 0, 0, 51, 200);
        // row 1 would fit if it were dark, row 0 if it were not
        Due.is("a thing that is twice as bright", x.periods(), 0);
        x.undo();
        x.pass(1);
        x.turn(0, 200);
        Due.is("the thing was not there at 0", x.periods(), 0);
    }

    private static void fittingNoneAndAll() {
        Due.sentence("the rows that were not blinded in a frame and have the pixels there that they would have by all as it is now.");
        for (int rows = 1; rows <= 10; rows++) {
            RowVotes x = Cameras.of(rows, 4, 1);
            x.thing(rows - 1, 9, 100, 0, 100, 200);
            x.shoot();
            int all = (1 << rows) - 1;
            Due.is("all of " + rows, x.fitting(0), all);
            x.pass(1);
            x.turn(0, 100);
            Due.is("all but the last of " + rows, x.fitting(0), rows == 2 ? all : all >> 1);
            x.set(4, 21);
            Due.is("none of " + rows, x.fitting(0), 0);
            Due.is("fitting(1)", x.fitting(1), Cameras.INVALID);
            Due.is("fitting(-1)", x.fitting(-1), Cameras.INVALID);
        }
    }

    private static void fittingOfBlindedRows() {
        Due.sentence("the rows that were not blinded in a frame");
        RowVotes x = new RowVotes();
        x.blind(0, 1);
        x.blind(5, 1);
        x.blind(9, 1);
        x.shoot();
        Due.is("two of six are blinded", x.fitting(0), 30);
        x.blind(0, 0);
        x.blind(1, 1);
        Due.is("as they were blinded then", x.fitting(0), 30);
        x.shoot();
        Due.is("as they are blinded in the next one", x.fitting(1), 29);
        x.set(4, 21);
        Due.is("none fits", x.fitting(0), 0);
    }

    private static void fittingByOnePixel() {
        Due.sentence("have the pixels there that they would have by all as it is now.");
        RowVotes x = Cameras.of(2, 16, 0);
        x.shoot();
        x.thing(0, 0, 1500, 0, 50, 21);
        Due.is("to just below the last pixel", x.fitting(0), 3);
        x.undo();
        x.thing(0, 0, 1500, 0, 51, 21);
        Due.is("in the last pixel", x.fitting(0), 2);
        x.undo();
        x.thing(1, 1, -1549, 0, 1600, 21);
        Due.is("in the first pixel", x.fitting(0), 1);
        x.undo();
        x.thing(1, 1, -1550, 0, 1600, 21);
        Due.is("to just below the first pixel", x.fitting(0), 3);
        x.undo();
        x.thing(1, 1, -1549, 0, 1600, 20);
        Due.is("in the first pixel, as the ground", x.fitting(0), 3);
        Cameras.lamp(x, 20, 1, 99);
        Due.is("the lamp is dark", x.fitting(0), 0);
        x.set(7, 100);
        Due.is("the lamp is dark, but not dimmed", x.fitting(0), 3);
    }

    private static void whatIsCounted() {
        Due.sentence("- `what`: 0: things; 1: frames that are kept; 2: the time; 3: rows that are blinded now, of all from 0 to 9; "
            + "4: frames taken so far; 5: 1 if the lamp is dark now, otherwise 0; 6: states in the history; "
            + "7: the length of the text; 10 to 17: the settings 0 to 7");
        RowVotes x = new RowVotes();
        x.thing(0, 9, 0, 0, 100, 200);
        x.thing(0, 9, 0, 0, 100, 200);
        x.thing(0, 9, 0, 0, 100, 200);
        x.set(6, 1);
        x.set(5, 20);
        for (int i = 0; i < 7; i++) {
            x.shoot();
        }
        x.pass(20);
        x.blind(9, 1);
        x.undo();
        x.blind(8, 1);
        x.undo();
        Cameras.write(x, "12345678");
        int[] due = {3, 5, 20, 0, 7, 1, 3, 8, Cameras.INVALID, Cameras.INVALID, 6, 12, 1, 40, 20, 20, 1, 50, Cameras.INVALID};
        for (int what = 0; what < due.length; what++) {
            Due.is("count(" + what + ")", x.count(what), due[what]);
        }
        for (int what : new int[] {-1, 8, 9, 18, 19, Integer.MIN_VALUE, Integer.MAX_VALUE}) {
            Due.is("count(" + what + ")", x.count(what), Cameras.INVALID);
        }
    }

    private static void settingsCounted() {
        Due.sentence("10 to 17: the settings 0 to 7");
        RowVotes x = new RowVotes();
        for (int what = 0; what <= 7; what++) {
            x.set(what, 4 + what % 4);
        }
        for (int what = 0; what <= 7; what++) {
            Due.is("count(" + (10 + what) + ")", x.count(10 + what), 4 + what % 4);
        }
        Due.is("count(9)", x.count(9), Cameras.INVALID);
        Due.is("count(18)", x.count(18), Cameras.INVALID);
    }
}
