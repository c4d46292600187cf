/** Promises 14 to 24: votes. */
public final class VotesTest {
    private static final int INVALID = -10000001;
    private static final int IMPOSSIBLE = -10000002;
    private static final int NONE = -10000004;

    public static void main(String[] args) {
        promise14Ties();
        promise14Reach();
        promise14None();
        promise14And16And17And15();
        promise15None();
        promise15Reach();
        promise17And20AtOnce();
        promise18();
        promise19And20();
        promise19None();
        promise21();
        promise22();
        promise23();
        promise24();
        promise24Lamp();
        promise24Reach();
        wrongFrames();
        Due.end();
    }

    /** A camera whose rows all look at the same time. */
    private static RowVotes still() {
        RowVotes x = new RowVotes();
        x.set(2, 0);
        return x;
    }

    /** Frame 0 has the edge 5 in row 0, frame 1 those of a thing that has come to the position in 8 ticks. */
    private static RowVotes edgeThenThing(int position, int width) {
        RowVotes x = still();
        x.thing(0, 0, 500, 200, 1600, 200);
        x.thing(0, 0, position - 800, 100, width, 200);
        x.shoot();
        x.pass(8);
        x.shoot();
        return x;
    }

    private static void promise14Ties() {
        RowVotes x = edgeThenThing(400, 200);
        Due.is("14: the first frame's edges", x.edges(0, 0), 32);
        Due.is("14: the second frame's edges", x.edges(1, 0), 80);
        Due.is("14: the negative one of two", x.vote(0, 1, 0), -1);
        Due.is("14: also the other way round", x.vote(1, 0, 0), -1);
        x = edgeThenThing(300, 300);
        Due.is("14: the one with the least size", x.vote(0, 1, 0), 1);
        Due.is("14: the one with the least size, back", x.vote(1, 0, 0), -1);
        x = edgeThenThing(400, 300);
        Due.is("14: the least size is negative", x.vote(0, 1, 0), -1);
        Due.is("14: the least size is not negative", x.vote(1, 0, 0), 1);
        x = still();
        x.thing(0, 0, 200, 100, 200, 200);
        x.shoot();
        x.pass(3);
        x.shoot();
        Due.is("14: two edges rather than one nearer", x.vote(0, 1, 0), 3);
        Due.is("14: and back", x.vote(1, 0, 0), -3);
        x.shoot();
        Due.is("14: nothing has moved", x.vote(1, 2, 0), 0);
    }

    private static void promise14Reach() {
        RowVotes x = still();
        x.thing(0, 0, 200, 100, 1600, 200);
        x.shoot();
        x.pass(8);
        x.shoot();
        x.pass(1);
        x.shoot();
        Due.is("14: 8 columns", x.vote(0, 1, 0), 8);
        Due.is("14: 8 columns back", x.vote(1, 0, 0), -8);
        Due.is("14: 9 columns", x.vote(0, 2, 0), NONE);
        Due.is("14: 9 columns back", x.vote(2, 0, 0), NONE);
        Due.is("14: 1 column", x.vote(1, 2, 0), 1);
    }

    private static void promise14None() {
        RowVotes x = still();
        x.thing(0, 2, 200, 0, 200, 200);
        x.blind(1, 1);
        x.shoot();
        x.blind(1, 0);
        x.blind(2, 1);
        x.shoot();
        Due.is("14: blinded in none of them", x.vote(0, 1, 0), 0);
        Due.is("14: blinded in the first one", x.vote(0, 1, 1), NONE);
        Due.is("14: blinded in the second one", x.vote(0, 1, 2), NONE);
        Due.is("14: without edges", x.vote(0, 1, 3), NONE);
        Due.is("14: no row 6", x.vote(0, 1, 6), INVALID);
        Due.is("14: no row -1", x.vote(0, 1, -1), INVALID);
        Due.is("14: the same frame", x.vote(1, 1, 0), INVALID);
        x.set(3, 200);
        Due.is("14: by the threshold as it is now", x.vote(0, 1, 0), NONE);
    }

    /** Rows 0 and 1 go by 1, row 2 by 2, row 3 by -1; the rows 4 and 5 see nothing. */
    private static void promise14And16And17And15() {
        RowVotes x = still();
        x.thing(0, 1, 200, 100, 200, 200);
        x.thing(2, 2, 200, 200, 200, 200);
        x.thing(3, 3, 400, -100, 200, 200);
        x.shoot();
        x.pass(1);
        x.shoot();
        int[] votes = {1, 1, 2, -1, NONE, NONE};
        for (int row = 0; row < 6; row++) {
            Due.is("14: vote of row " + row, x.vote(0, 1, row), votes[row]);
        }
        Due.is("15: less than half, but most", x.shift(0, 1), 1);
        Due.is("15: the other way round", x.shift(1, 0), -1);
        Due.is("16: for 1", x.voters(0, 1, 1), 3);
        Due.is("16: for 2", x.voters(0, 1, 2), 4);
        Due.is("16: for -1", x.voters(0, 1, -1), 8);
        Due.is("16: for 0", x.voters(0, 1, 0), 0);
        Due.is("16: for 8", x.voters(0, 1, 8), 0);
        Due.is("16: for -8", x.voters(0, 1, -8), 0);
        Due.is("16: for 9", x.voters(0, 1, 9), INVALID);
        Due.is("16: for -9", x.voters(0, 1, -9), INVALID);
        Due.is("16: for NOT_FOUND", x.voters(0, 1, NONE), INVALID);
        Due.is("17: dissent", x.dissent(0, 1), 12);
        Due.is("17: dissent, the other way round", x.dissent(1, 0), 12);
    }

    private static void promise15None() {
        RowVotes x = still();
        x.thing(0, 1, 200, 100, 200, 200);
        x.thing(2, 3, 200, 200, 200, 200);
        x.shoot();
        x.pass(1);
        x.shoot();
        Due.is("15: two shifts have the most votes", x.shift(0, 1), NONE);
        Due.is("16: there are voters all the same", x.voters(0, 1, 2), 12);
        Due.is("17: none is told", x.dissent(0, 1), NONE);
        Due.is("18: none is told", x.speed(0, 1), NONE);
        x.set(3, 255);
        Due.is("15: no vote", x.shift(0, 1), NONE);
        Due.is("17: no vote", x.dissent(0, 1), NONE);
        Due.is("22: no vote", x.judge(0, 1), NONE);
        Due.is("16: no vote", x.voters(0, 1, 1), 0);
        x.set(3, 40);
        x.set(6, 1);
        x.blind(3, 1);
        x.shoot();
        Due.is("15: row 3 is blinded", x.shift(0, 2), 1);
        Due.is("17: nobody is left but row 2", x.dissent(0, 2), 4);
    }

    private static void promise15Reach() {
        RowVotes x = still();
        x.thing(0, 5, 200, 100, 1600, 200);
        x.shoot();
        x.pass(8);
        x.shoot();
        x.pass(1);
        x.shoot();
        Due.is("15: 8 columns back", x.shift(1, 0), -8);
        Due.is("16: 8 columns back", x.voters(1, 0, -8), 63);
        Due.is("21: 8 columns back", x.weighed(1, 0), -8);
        Due.is("15: 8 columns", x.shift(0, 1), 8);
        Due.is("16: 8 columns", x.voters(0, 1, 8), 63);
        Due.is("15: 1 column", x.shift(1, 2), 1);
        Due.is("15: 9 columns", x.shift(0, 2), NONE);
        Due.is("22: 9 columns", x.judge(0, 2), NONE);
        Due.is("22: 8 columns back", x.judge(1, 0), 6);
    }

    /** Each of these is the first call that looks at votes. */
    private static void promise17And20AtOnce() {
        RowVotes x = still();
        x.thing(0, 1, 200, 100, 200, 200);
        x.thing(2, 2, 200, 200, 200, 200);
        x.shoot();
        x.pass(1);
        x.shoot();
        Due.is("17: at once", x.dissent(0, 1), 4);
        Due.is("20: at once", slanted(4, 3, 0, 100).slantSpeed(0), 100);
        x.forget(0);
        Due.is("14: the rows of a frame that is forgotten", x.vote(0, 1, 0), INVALID);
    }

    private static void promise18() {
        RowVotes x = still();
        x.thing(0, 5, 400, 0, 200, 200);
        x.shoot();
        x.shoot();
        Due.is("18: at the same time", x.speed(0, 1), IMPOSSIBLE);
        x.set(3, 255);
        Due.is("18: at the same time without votes", x.speed(0, 1), IMPOSSIBLE);
        x.set(3, 40);
        Due.is("18: the same frame", x.speed(1, 1), INVALID);
        x.turn(0, 67);
        x.pass(3);
        x.shoot();
        Due.is("18: by 2 in 3 ticks", x.shift(0, 2), 2);
        Due.is("18: rounded down", x.speed(0, 2), 66);
        Due.is("18: the other way round", x.speed(2, 0), 66);
        x.turn(0, -134);
        x.pass(3);
        x.shoot();
        Due.is("18: by -4 in 3 ticks", x.speed(2, 3), -133);
        Due.is("18: by -2 in 6 ticks", x.speed(0, 3), -33);
        Due.is("18: the other way round", x.speed(3, 0), -33);
    }

    private static RowVotes slanted(int rows, int delay, int position, int speed) {
        RowVotes x = new RowVotes();
        x.set(0, rows);
        x.set(2, delay);
        x.thing(0, 9, position, speed, 100, 200);
        x.shoot();
        return x;
    }

    private static void promise19And20() {
        RowVotes x = slanted(6, 1, 200, 100);
        Due.is("19: a column a row", x.slant(0), 1);
        Due.is("20: a column a row", x.slantSpeed(0), 100);
        x = slanted(5, 2, 200, 100);
        Due.is("19: two columns a row", x.slant(0), 2);
        Due.is("20: two columns a row", x.slantSpeed(0), 100);
        x = slanted(5, 3, 0, 50);
        Due.is("19: mostly two columns a row", x.slant(0), 2);
        Due.is("20: rounded down", x.slantSpeed(0), 66);
        x = slanted(4, 3, 750, -50);
        Due.is("19: mostly a column back", x.slant(0), -1);
        Due.is("20: rounded up", x.slantSpeed(0), -33);
        x = slanted(2, 9, 300, 0);
        Due.is("19: upright", x.slant(0), 0);
        Due.is("20: upright", x.slantSpeed(0), 0);
        x = slanted(2, 8, 200, 100);
        Due.is("19: eight columns", x.slant(0), 8);
        x = slanted(3, 0, 200, 100);
        Due.is("19: without a delay", x.slant(0), 0);
        Due.is("20: without a delay", x.slantSpeed(0), IMPOSSIBLE);
        Due.is("20: no frame, without a delay", x.slantSpeed(1), INVALID);
        x.set(3, 255);
        Due.is("20: no slant, without a delay", x.slantSpeed(0), IMPOSSIBLE);
    }

    private static void promise19None() {
        RowVotes x = slanted(6, 3, 0, 50);
        Due.is("19: two slants have the most votes", x.slant(0), NONE);
        Due.is("20: two slants have the most votes", x.slantSpeed(0), NONE);
        Due.is("19: slant(1)", x.slant(1), INVALID);
        Due.is("19: slant(-1)", x.slant(-1), INVALID);
        Due.is("20: slantSpeed(1)", x.slantSpeed(1), INVALID);
        x.set(3, 255);
        Due.is("19: no vote", x.slant(0), NONE);
        x = slanted(1, 1, 200, 100);
        Due.is("19: one row", x.slant(0), NONE);
        x = slanted(2, 9, 200, 100);
        Due.is("19: eight columns between two of the edges", x.slant(0), 8);
        x.forget(0);
        x.thing(0, 9, 200, 100, 1600, 200);
        x.shoot();
        Due.is("19: nine columns", x.slant(0), NONE);
        x = new RowVotes();
        x.set(0, 3);
        x.thing(0, 9, 200, 100, 100, 200);
        x.blind(1, 1);
        x.shoot();
        Due.is("19: the row between is blinded", x.slant(0), NONE);
        x.blind(1, 0);
        x.blind(0, 1);
        x.shoot();
        Due.is("19: the first row is blinded", x.slant(1), 1);
    }

    /** Rows 0 and 1 go by 1, the other four by 2; those are blinded in frame 1, but not in frame 2. */
    private static RowVotes fewAgainstMany() {
        RowVotes x = still();
        x.thing(0, 1, 200, 100, 200, 200);
        x.thing(2, 5, 200, 200, 200, 200);
        x.shoot();
        x.pass(1);
        for (int row = 2; row <= 5; row++) {
            x.blind(row, 1);
        }
        x.shoot();
        for (int row = 2; row <= 5; row++) {
            x.blind(row, 0);
        }
        x.shoot();
        return x;
    }

    private static void promise21() {
        RowVotes x = fewAgainstMany();
        Due.is("21: as shift at first", x.weighed(0, 2), 2);
        Due.is("21: without the others", x.weighed(0, 1), 1);
        Due.is("21: the same frame", x.weighed(0, 0), INVALID);
        x.judge(0, 1);
        Due.is("21: two shifts have the most weight", x.weighed(0, 2), NONE);
        Due.is("21: the shift is told", x.shift(0, 2), 2);
        x.judge(0, 1);
        Due.is("21: the rows 0 and 1 weigh 6", x.weighed(0, 2), 1);
        Due.is("21: and back", x.weighed(2, 0), -1);
        Due.is("21: the shift is still told", x.shift(0, 2), 2);
        for (int i = 0; i < 5; i++) {
            x.judge(0, 2);
        }
        Due.is("21: the other rows weigh 24", x.weighed(0, 2), 2);
        Due.is("21: no row weighs less than 1", x.weighed(0, 1), 1);
        x.set(3, 255);
        Due.is("21: no vote", x.weighed(0, 2), NONE);
    }

    private static void promise22() {
        RowVotes x = fewAgainstMany();
        x.pass(1);
        int states = x.count(6);
        Due.is("22: two rows have a vote", x.judge(0, 1), 2);
        Due.is("22: row 0 agreed", x.rowOf(0, 1), 1);
        Due.is("22: row 1 agreed", x.rowOf(1, 1), 1);
        Due.is("22: row 2 did not", x.rowOf(2, 1), 0);
        Due.is("22: nor dissent", x.rowOf(2, 2), 0);
        Due.is("22: all rows have a vote", x.judge(2, 0), 6);
        Due.is("22: row 0 agreed once", x.rowOf(0, 1), 1);
        Due.is("22: row 0 dissented", x.rowOf(0, 2), 1);
        Due.is("22: row 5 agreed", x.rowOf(5, 1), 1);
        Due.is("22: row 5 did not dissent", x.rowOf(5, 2), 0);
        Due.is("22: row 6 is not there", x.rowOf(6, 1), 0);
        Due.is("22: states", x.count(6), Math.min(4, states + 2));
        Due.is("22: undo()", x.undo(), 3);
        Due.is("22: row 0 dissented no more", x.rowOf(0, 2), 0);
        Due.is("22: undo() again", x.undo(), 2);
        Due.is("22: row 0 agreed no more", x.rowOf(0, 1), 0);
        Due.is("22: the same frame", x.judge(1, 1), INVALID);
        x.set(3, 255);
        Due.is("22: none is told", x.judge(0, 2), NONE);
        Due.is("22: that is no change", x.count(6), 3);
    }

    private static void promise23() {
        RowVotes x = fewAgainstMany();
        x.blind(7, 1);
        Due.is("23: a blinded row", x.rowOf(7, 0), 1);
        Due.is("23: another row", x.rowOf(6, 0), 0);
        Due.is("23: weight at first", x.rowOf(0, 3), 1);
        x.judge(0, 2);
        x.judge(0, 2);
        x.judge(0, 1);
        Due.is("23: agreed", x.rowOf(0, 1), 1);
        Due.is("23: dissented", x.rowOf(0, 2), 2);
        Due.is("23: weight is 1 at least", x.rowOf(0, 3), 1);
        Due.is("23: weight of row 2", x.rowOf(2, 3), 3);
        x.judge(0, 1);
        Due.is("23: agreed as often as dissented", x.rowOf(0, 3), 1);
        x.judge(0, 1);
        Due.is("23: agreed more often", x.rowOf(0, 3), 2);
        Due.is("23: rowOf(9, 3)", x.rowOf(9, 3), 1);
        Due.is("23: rowOf(10, 0)", x.rowOf(10, 0), INVALID);
        Due.is("23: rowOf(-1, 0)", x.rowOf(-1, 0), INVALID);
        Due.is("23: rowOf(0, 4)", x.rowOf(0, 4), INVALID);
        Due.is("23: rowOf(0, -1)", x.rowOf(0, -1), INVALID);
    }

    /** Row 0 stands still, row 1 goes by a column a tick and is out of sight after 10 ticks. */
    private static void promise24() {
        RowVotes x = still();
        Due.is("24: without frames", x.bestWait(0, 0), INVALID);
        x.thing(0, 0, 300, 0, 100, 200);
        x.thing(1, 1, 200, 100, 100, 200);
        x.shoot();
        Due.is("24: none is told before that", x.bestWait(0, 0), 10);
        Due.is("24: by one vote", x.bestWait(0, 1), 1);
        x.thing(2, 3, 300, 10, 100, 200);
        x.forget(0);
        x.shoot();
        Due.is("24: two that stand still almost, and one", x.bestWait(0, 0), 1);
        Due.is("24: by three votes", x.bestWait(0, 1), 3);
        x.blind(2, 1);
        Due.is("24: one of them is blinded now", x.bestWait(0, 1), 2);
        x.blind(0, 1);
        x.blind(1, 1);
        x.blind(3, 1);
        Due.is("24: all of them are blinded now", x.bestWait(0, 0), NONE);
        Due.is("24: all of them are blinded now, votes", x.bestWait(0, 1), NONE);
        Due.is("24: bestWait(0, 2)", x.bestWait(0, 2), INVALID);
        Due.is("24: bestWait(0, -1)", x.bestWait(0, -1), INVALID);
        Due.is("24: bestWait(1, 0)", x.bestWait(1, 0), INVALID);
        Due.is("24: bestWait(-1, 0)", x.bestWait(-1, 0), INVALID);
        Due.is("24: no frame was taken", x.count(4), 2);
        Due.is("24: no time went by", x.count(2), 0);
    }

    private static void promise24Lamp() {
        RowVotes x = still();
        x.thing(0, 5, 300, 0, 100, 200);
        x.set(5, 5);
        x.set(6, 4);
        x.set(7, 0);
        x.pass(4);
        x.shoot();
        Due.is("24: when the lamp is lit again", x.bestWait(0, 0), 5);
        Due.is("24: by all rows", x.bestWait(0, 1), 6);
        for (int i = 0; i < 99; i++) {
            x.pass(200);
        }
        x.pass(196);
        Due.is("24: beyond the end of time", x.bestWait(0, 0), 4);
        x = new RowVotes();
        x.thing(0, 5, 300, 0, 100, 200);
        x.set(7, 0);
        x.shoot();
        x.set(5, 20);
        x.set(6, 17);
        Due.is("24: the rows look one after the other", x.bestWait(0, 0), 14);
        Due.is("24: three ticks are lit", x.bestWait(0, 1), 3);
    }

    /** A thing that covers all goes away and shows the first column in a number of ticks. */
    private static RowVotes uncovered(int ticks) {
        RowVotes x = still();
        x.set(0, 1);
        x.set(1, 4);
        x.thing(0, 0, 200, 0, 100, 200);
        x.thing(0, 0, 451 - ticks, -200, 1600, 100);
        x.shoot();
        x.pass(2);
        x.turn(1, 1);
        return x;
    }

    private static void promise24Reach() {
        RowVotes x = uncovered(40);
        Due.is("24: in 40 ticks", x.bestWait(0, 0), 40);
        Due.is("24: in 40 ticks, votes", x.bestWait(0, 1), 1);
        x = uncovered(41);
        Due.is("24: in 41 ticks", x.bestWait(0, 0), NONE);
        x = uncovered(39);
        Due.is("24: in 39 ticks", x.bestWait(0, 0), 39);
    }

    private static void wrongFrames() {
        RowVotes x = still();
        x.shoot();
        x.shoot();
        int[][] pairs = {{0, 0}, {1, 1}, {0, 2}, {2, 0}, {-1, 0}, {0, -1}, {Integer.MIN_VALUE, 1}, {7, 7}};
        for (int[] pair : pairs) {
            int a = pair[0];
            int b = pair[1];
            String of = "(" + a + ", " + b + ")";
            Due.is("14: vote" + of, x.vote(a, b, 0), INVALID);
            Due.is("15: shift" + of, x.shift(a, b), INVALID);
            Due.is("16: voters" + of, x.voters(a, b, 0), INVALID);
            Due.is("17: dissent" + of, x.dissent(a, b), INVALID);
            Due.is("18: speed" + of, x.speed(a, b), INVALID);
            Due.is("21: weighed" + of, x.weighed(a, b), INVALID);
            Due.is("22: judge" + of, x.judge(a, b), INVALID);
        }
        Due.is("22: no change", x.count(6), 3);
    }
}
