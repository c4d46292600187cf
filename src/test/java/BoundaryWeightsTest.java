/** Boundary cases of slants, weights and waits, promises 19 to 21, 23 and 24: each sentence has its own test. */
public final class BoundaryWeightsTest {
    public static void main(String[] args) {
        rowAndTheRowBelow();
        slantsOfReach();
        slantToldByMost();
        slantOfOneRow();
        slantOfBlindedRows();
        slantErrors();
        slantSpeedTowardZero();
        slantSpeedWithoutDelay();
        weightOfARow();
        weightsOfNeighbours();
        weightIsOneAtLeast();
        mostWeight();
        noMostWeight();
        weighedNoVote();
        whatOfARow();
        rowsAskedFor();
        agreedAndDissented();
        waitsOfOneAndForty();
        waitsBeyondTheEnd();
        leastOfSeveralWaits();
        mostVotesOfAWait();
        noWait();
        waitsTieIsNotTold();
        waitAsItIsNow();
        Due.end();
    }

    /** A frame in which each row has one edge, at the column that is told for it; at most four rows. */
    private static RowVotes slanted(int delay, int... columns) {
        RowVotes x = Cameras.of(columns.length, 16, delay);
        for (int row = 0; row < columns.length; row++) {
            Cameras.edge(x, row, row, columns[row], 0);
        }
        x.shoot();
        return x;
    }

    private static void rowAndTheRowBelow() {
        Due.sentence("Of one frame, each row and the row below it vote for a slant likewise, the row above as the first one;");
        Due.is("to the right below", slanted(1, 3, 5).slant(0), 2);
        Due.is("to the left below", slanted(1, 5, 3).slant(0), -2);
        Due.is("upright", slanted(1, 5, 5).slant(0), 0);
        Due.is("two pairs", slanted(1, 3, 5, 7).slant(0), 2);
        Due.is("no edge in the row above", slanted(1, 0, 5).slant(0), Cameras.NONE);
        Due.is("no edge in the row below", slanted(1, 5, 0).slant(0), Cameras.NONE);
        Due.is("only the first pair", slanted(1, 3, 5, 0).slant(0), 2);
        Due.is("only the last pair", slanted(1, 0, 5, 4).slant(0), -1);
        RowVotes x = Cameras.of(2, 16, 1);
        x.thing(0, 0, 500, 0, 1600, 200);
        x.thing(1, 1, 400, 0, 200, 200);
        x.shoot();
        Due.is("of two the negative one", x.slant(0), -1);
        x = Cameras.of(2, 16, 1);
        x.thing(0, 0, 400, 0, 200, 200);
        x.thing(1, 1, 500, 0, 1600, 200);
        x.shoot();
        Due.is("of two the negative one, one edge below", x.slant(0), -1);
    }

    private static void slantsOfReach() {
        Due.sentence("Returns the slant, -8 to 8; INVALID_ARGUMENT; NOT_FOUND if none is told.");
        int[][] due = {{1, 8, 7}, {1, 9, 8}, {1, 10, Cameras.NONE}, {7, 15, 8}, {6, 15, Cameras.NONE},
            {9, 2, -7}, {9, 1, -8}, {10, 1, Cameras.NONE}, {15, 7, -8}, {15, 6, Cameras.NONE}};
        for (int[] d : due) {
            RowVotes x = slanted(1, d[0], d[1]);
            Due.is(d[0] + " above " + d[1], x.slant(0), d[2]);
            Due.is(d[0] + " above " + d[1] + ", speed", x.slantSpeed(0), d[2] == Cameras.NONE ? d[2] : 100 * d[2]);
        }
    }

    private static void slantToldByMost() {
        Due.sentence("the slant that most of them vote for is told, as above.");
        Due.is("one and one", slanted(1, 3, 4, 6).slant(0), Cameras.NONE);
        Due.is("one and one, both sides", slanted(1, 3, 4, 3).slant(0), Cameras.NONE);
        Due.is("two and one", slanted(1, 3, 4, 5, 7).slant(0), 1);
        Due.is("one and two", slanted(1, 3, 5, 6, 7).slant(0), 1);
        Due.is("one, one and one", slanted(1, 3, 4, 6, 6).slant(0), Cameras.NONE);
        Due.is("three", slanted(1, 3, 4, 5, 6).slant(0), 1);
        Due.is("one and one without a vote", slanted(1, 1, 10, 9).slant(0), -1);
    }

    private static void slantOfOneRow() {
        Due.sentence("Of one frame, each row and the row below it vote for a slant likewise");
        Due.is("one row", slanted(1, 5).slant(0), Cameras.NONE);
        Due.is("one row, speed", slanted(1, 5).slantSpeed(0), Cameras.NONE);
        RowVotes x = Cameras.of(1, 16, 1);
        Cameras.edge(x, 0, 9, 5, 0);
        x.shoot();
        Due.is("a thing beyond the only row", x.slant(0), Cameras.NONE);
        x.forget(0);
        x.set(0, 2);
        x.shoot();
        Due.is("two rows", x.slant(0), 0);
        x.forget(0);
        x.set(0, 10);
        x.shoot();
        Due.is("ten rows", x.slant(0), 0);
        // rows 8 and 9 are a pair, row 9 and what is behind it are none
        x = Cameras.of(10, 16, 1);
        Cameras.edge(x, 8, 8, 5, 0);
        Cameras.edge(x, 9, 9, 6, 0);
        x.shoot();
        Due.is("the last pair of ten", x.slant(0), 1);
    }

    private static void slantOfBlindedRows() {
        Due.sentence("vote for a slant likewise");
        RowVotes x = slanted(1, 3, 4, 6);
        x.blind(0, 1);
        x.shoot();
        Due.is("the first row is blinded", x.slant(1), 2);
        x.blind(0, 0);
        x.blind(2, 1);
        x.shoot();
        Due.is("the last row is blinded", x.slant(2), 1);
        x.blind(2, 0);
        x.blind(1, 1);
        x.shoot();
        Due.is("the row between is blinded", x.slant(3), Cameras.NONE);
        Due.is("none was blinded", x.slant(0), Cameras.NONE);
        Due.is("that it is blinded now does not matter", x.slant(1), 2);
    }

    private static void slantErrors() {
        Due.sentence("Returns the speed; INVALID_ARGUMENT; NOT_POSSIBLE if the delay is 0; NOT_FOUND if no slant is told.");
        RowVotes x = slanted(0, 3, 5);
        Due.is("delay 0", x.slantSpeed(0), Cameras.IMPOSSIBLE);
        Due.is("delay 0, the slant", x.slant(0), 2);
        Due.is("delay 0, no such frame", x.slantSpeed(1), Cameras.INVALID);
        Due.is("delay 0, no frame -1", x.slantSpeed(-1), Cameras.INVALID);
        x.set(3, 255);
        Due.is("delay 0, no slant", x.slantSpeed(0), Cameras.IMPOSSIBLE);
        x = slanted(1, 3, 5);
        Due.is("delay 1", x.slantSpeed(0), 200);
        Due.is("delay 1, no such frame", x.slantSpeed(1), Cameras.INVALID);
        x.set(3, 255);
        Due.is("delay 1, no slant", x.slantSpeed(0), Cameras.NONE);
        Due.is("delay 1, no slant, no such frame", x.slantSpeed(1), Cameras.INVALID);
    }

    private static void slantSpeedTowardZero() {
        Due.sentence("the slant, times 100, divided by the delay of a row, rounded toward 0.");
        int[][] due = {{1, 1, 100}, {1, 2, 50}, {1, 3, 33}, {2, 3, 66}, {1, 6, 16}, {1, 7, 14}, {5, 7, 71}, {1, 8, 12},
            {1, 9, 11}, {8, 9, 88}, {8, 1, 800}, {7, 9, 77}, {0, 9, 0}, {0, 1, 0}};
        for (int[] d : due) {
            Due.is(d[0] + " by " + d[1], slanted(d[1], 4, 4 + d[0]).slantSpeed(0), d[2]);
            Due.is("-" + d[0] + " by " + d[1], slanted(d[1], 12, 12 - d[0]).slantSpeed(0), -d[2]);
        }
    }

    private static void slantSpeedWithoutDelay() {
        Due.sentence("NOT_POSSIBLE if the delay is 0");
        for (int delay = 0; delay <= 9; delay++) {
            RowVotes x = slanted(delay, 4, 5);
            Due.is("delay " + delay, x.slantSpeed(0), delay == 0 ? Cameras.IMPOSSIBLE : 100 / delay);
        }
    }

    /**
     * Ten rows: row 0 by 1, row 1 by 2, rows 2 and 3 by 3. In frame 1 only row 0 is not blinded, in frame 2 rows 0 and 1
     * are, in frame 3 all but the rows 0 and 1 are, in frame 4 none is.
     */
    private static RowVotes camps() {
        RowVotes x = Cameras.of(10, 16, 0);
        Cameras.edge(x, 0, 0, 3, 10);
        Cameras.edge(x, 1, 1, 3, 20);
        Cameras.edge(x, 2, 3, 3, 30);
        x.shoot();
        x.pass(10);
        Cameras.write(x, "b1;b2;b3;s;u2;u3;b0;s;u0;u1;b2;b3;s;u2;u3;s;");
        x.play();
        return x;
    }

    private static void weightOfARow() {
        Due.sentence("The weight of a row is 1, and besides how often it has agreed minus how often it has dissented, "
            + "if that is above 0 (so it is 1 at least).");
        RowVotes x = camps();
        Due.is("agreed never", x.rowOf(0, 3), 1);
        for (int agreed = 1; agreed <= 5; agreed++) {
            Due.is("judge", x.judge(0, 1), 1);
            Due.is("agreed " + agreed + " times", x.rowOf(0, 3), 1 + agreed);
        }
        for (int dissented = 1; dissented <= 8; dissented++) {
            Due.is("judge otherwise", x.judge(0, 4), 4);
            Due.is("dissented " + dissented + " times", x.rowOf(0, 3), Math.max(1, 6 - dissented));
            Due.is("the others", x.rowOf(3, 3), 1 + dissented);
        }
        Due.is("a row without a vote", x.rowOf(9, 3), 1);
    }

    /** Each second row of ten dissents: this does not matter to the weights of the rows beside it. */
    private static void weightsOfNeighbours() {
        Due.sentence("The weight of a row is 1, and besides how often it has agreed minus how often it has dissented");
        RowVotes x = Cameras.edges(10, new int[] {0, 9, 5, 6}, new int[] {1, 1, 4, 6}, new int[] {4, 4, 4, 6},
            new int[] {8, 8, 4, 6});
        for (int times = 1; times <= 3; times++) {
            Due.is("judge", x.judge(0, 1), 10);
            for (int row = 0; row <= 9; row++) {
                boolean dissents = row == 1 || row == 4 || row == 8;
                Due.is("row " + row + " agreed", x.rowOf(row, 1), dissents ? 0 : times);
                Due.is("row " + row + " dissented", x.rowOf(row, 2), dissents ? times : 0);
                Due.is("row " + row + " weighs", x.rowOf(row, 3), dissents ? 1 : 1 + times);
            }
        }
    }

    private static void weightIsOneAtLeast() {
        Due.sentence("(so it is 1 at least)");
        RowVotes x = camps();
        x.judge(0, 4);
        Due.is("agreed 0, dissented 1", x.rowOf(0, 3), 1);
        x.judge(0, 4);
        Due.is("agreed 0, dissented 2", x.rowOf(0, 3), 1);
        Due.is("it weighs 1, as without it", x.weighed(0, 1), 1);
        x.judge(0, 1);
        Due.is("agreed 1, dissented 2", x.rowOf(0, 3), 1);
        x.judge(0, 1);
        Due.is("agreed 2, dissented 2", x.rowOf(0, 3), 1);
        // row 1 dissented twice, so both weigh 1
        Due.is("rows 0 and 1 weigh the same", x.weighed(0, 3), Cameras.NONE);
        x.judge(0, 1);
        Due.is("agreed 3, dissented 2", x.rowOf(0, 3), 2);
        Due.is("row 0 weighs more than row 1", x.weighed(0, 3), 1);
    }

    private static void mostWeight() {
        Due.sentence("Returns the shift for which the rows that vote for it have the most weight together.");
        RowVotes x = camps();
        Due.is("1, 1 and 2", x.weighed(0, 4), 3);
        Due.is("1, 1 and 2, back", x.weighed(4, 0), -3);
        x.judge(0, 1);
        Due.is("2, 1 and 2", x.weighed(0, 4), Cameras.NONE);
        x.judge(0, 1);
        Due.is("3, 1 and 2", x.weighed(0, 4), 1);
        Due.is("the shift told is another one", x.shift(0, 4), 3);
        x.judge(0, 4);
        Due.is("2, 1 and 4", x.weighed(0, 4), 3);
        x.undo();
        Due.is("undone", x.weighed(0, 4), 1);
    }

    private static void noMostWeight() {
        Due.sentence("NOT_FOUND if there is no vote, or several shifts have the most weight.");
        RowVotes x = camps();
        Due.is("1 and 1", x.weighed(0, 3), Cameras.NONE);
        Due.is("none told either", x.shift(0, 3), Cameras.NONE);
        x.judge(0, 1);
        Due.is("2 and 1", x.weighed(0, 3), 1);
        Due.is("none told still", x.shift(0, 3), Cameras.NONE);
        Due.is("so nobody is judged", x.judge(0, 3), Cameras.NONE);
        Due.is("2, 1 and 2", x.weighed(0, 4), Cameras.NONE);
        Due.is("1 and 1 of two rows that agree", x.weighed(0, 2), 3);
        Due.is("the same frame", x.weighed(3, 3), Cameras.INVALID);
        Due.is("no such frame", x.weighed(0, 5), Cameras.INVALID);
    }

    private static void weighedNoVote() {
        Due.sentence("NOT_FOUND if there is no vote");
        RowVotes x = camps();
        for (int i = 0; i < 3; i++) {
            x.judge(0, 4);
        }
        Due.is("with votes", x.weighed(0, 4), 3);
        x.set(3, 181);
        Due.is("no edges", x.weighed(0, 4), Cameras.NONE);
        x.set(3, 180);
        Due.is("edges", x.weighed(0, 4), 3);
        Due.is("no row was blinded in neither", x.weighed(1, 3), 0);
        Due.is("each row was blinded in one of them", x.weighed(2, 3), Cameras.NONE);
    }

    private static void whatOfARow() {
        Due.sentence("- `what`: 0: 1 if it is blinded now, otherwise 0; 1: how often it has agreed; "
            + "2: how often it has dissented; 3: its weight");
        RowVotes x = camps();
        x.judge(0, 4);
        x.judge(0, 1);
        x.judge(0, 1);
        x.judge(0, 1);
        x.blind(0, 1);
        int[] due = {1, 3, 1, 3};
        for (int what = 0; what <= 3; what++) {
            Due.is("rowOf(0, " + what + ")", x.rowOf(0, what), due[what]);
        }
        for (int what : new int[] {-1, 4, 5, Integer.MIN_VALUE, Integer.MAX_VALUE}) {
            Due.is("rowOf(0, " + what + ")", x.rowOf(0, what), Cameras.INVALID);
        }
    }

    private static void rowsAskedFor() {
        Due.sentence("- `row`: 0 to 9\n- `what`: 0: 1 if it is blinded now");
        RowVotes x = new RowVotes();
        x.set(0, 1);
        x.blind(9, 1);
        for (int what = 0; what <= 3; what++) {
            for (int row : new int[] {-1, 10, Integer.MIN_VALUE, Integer.MAX_VALUE}) {
                Due.is("rowOf(" + row + ", " + what + ")", x.rowOf(row, what), Cameras.INVALID);
            }
            Due.is("rowOf(0, " + what + ")", x.rowOf(0, what), what == 3 ? 1 : 0);
            Due.is("rowOf(8, " + what + ")", x.rowOf(8, what), what == 3 ? 1 : 0);
            Due.is("rowOf(9, " + what + ")", x.rowOf(9, what), what == 3 || what == 0 ? 1 : 0);
        }
    }

    private static void agreedAndDissented() {
        Due.sentence("1: how often it has agreed; 2: how often it has dissented");
        RowVotes x = camps();
        for (int i = 1; i <= 12; i++) {
            x.judge(0, 4);
            Due.is("row 2 agreed", x.rowOf(2, 1), i);
            Due.is("row 2 dissented", x.rowOf(2, 2), 0);
            Due.is("row 1 agreed", x.rowOf(1, 1), 0);
            Due.is("row 1 dissented", x.rowOf(1, 2), i);
            Due.is("row 4 agreed", x.rowOf(4, 1), 0);
            Due.is("row 4 dissented", x.rowOf(4, 2), 0);
        }
        for (int i = 11; i >= 8; i--) {
            x.undo();
            Due.is("row 2 agreed, undone", x.rowOf(2, 1), i);
            Due.is("row 1 dissented, undone", x.rowOf(1, 2), i);
        }
    }

    /**
     * An edge at 1 that has gone to a place out of sight, from which it comes back by a column a tick. The first frame sees
     * it in the column 1; it votes when it is in the column 9 again, at 950.
     */
    private static RowVotes comingBack(int before, int awayTo) {
        RowVotes x = Cameras.of(1, 16, 0);
        Cameras.passTo(x, before);
        int from = 60 + (awayTo - 60) % 25;
        int speed = (awayTo - from) / 25;
        x.thing(0, 0, from, 0, 1600, 200);
        x.shoot();
        x.turn(0, speed);
        x.pass(25);
        x.turn(0, -100);
        Due.is("the edge in the first frame", x.edges(0, 0), 2);
        Due.is("where it is now", x.thingOf(0, 6), awayTo);
        return x;
    }

    private static void waitsOfOneAndForty() {
        Due.sentence("- `what`: 0: the ticks, 1 to 40; 1: how many votes that shift has");
        int[][] due = {{1050, 1}, {1051, 2}, {1150, 2}, {1151, 3}, {4850, 39}, {4851, 40}, {4950, 40}, {4951, Cameras.NONE},
            {5050, Cameras.NONE}};
        for (int[] d : due) {
            RowVotes x = comingBack(0, d[0]);
            Due.is("from " + d[0], x.bestWait(0, 0), d[1]);
            Due.is("from " + d[0] + ", votes", x.bestWait(0, 1), d[1] == Cameras.NONE ? Cameras.NONE : 1);
        }
        RowVotes x = comingBack(0, 950);
        Due.is("it would be told now as well", x.bestWait(0, 0), 1);
        x.turn(0, 100);
        Due.is("it would be told only now", x.bestWait(0, 0), Cameras.NONE);
        for (int what : new int[] {-1, 2, 3, Integer.MIN_VALUE, Integer.MAX_VALUE}) {
            Due.is("bestWait(0, " + what + ")", x.bestWait(0, what), Cameras.INVALID);
        }
    }

    private static void waitsBeyondTheEnd() {
        Due.sentence("(also beyond the time 20000)");
        int[] times = {19935, 19936, 19974, 19975};
        for (int time : times) {
            RowVotes x = comingBack(time, 4950);
            Due.is("at " + (time + 25), x.bestWait(0, 0), 40);
            Due.is("at " + (time + 25) + ", votes", x.bestWait(0, 1), 1);
            x = comingBack(time, 1050);
            Due.is("at " + (time + 25) + ", one tick", x.bestWait(0, 0), 1);
            Due.is("the time stays", x.count(2), time + 25);
            x = comingBack(time, 4951);
            Due.is("at " + (time + 25) + ", in 41 ticks", x.bestWait(0, 0), Cameras.NONE);
        }
    }

    private static void leastOfSeveralWaits() {
        Due.sentence("of several the least one.");
        RowVotes x = Cameras.of(3, 16, 0);
        Cameras.edge(x, 0, 2, 5, 0);
        x.shoot();
        Due.is("all waits", x.bestWait(0, 0), 1);
        Due.is("all waits, votes", x.bestWait(0, 1), 3);
        Cameras.lamp(x, 4, 3, 0);
        Due.is("3, 7, 11 and so on", x.bestWait(0, 0), 3);
        x.set(6, 2);
        Due.is("2, 3, 6, 7 and so on", x.bestWait(0, 0), 2);
        x.set(6, 4);
        Due.is("none", x.bestWait(0, 0), Cameras.NONE);
    }

    /** The edge in row 0 is in sight, the one in row 1 from the tick 5 on, the one in row 2 from a later tick on. */
    private static RowVotes uncovered(int from) {
        RowVotes x = Cameras.of(3, 16, 0);
        Cameras.edge(x, 0, 2, 5, 0);
        x.shoot();
        x.thing(1, 1, 150, 100, 1600, 20);
        x.thing(2, 2, 560 - 10 * from, 10, 1600, 20);
        return x;
    }

    private static void mostVotesOfAWait() {
        Due.sentence("a shift is told by more votes than with any other number of ticks;");
        int[][] due = {{39, 39, 3}, {40, 40, 3}, {41, 5, 2}, {5, 5, 3}, {6, 6, 3}, {4, 5, 3}};
        for (int[] d : due) {
            RowVotes x = uncovered(d[0]);
            Due.is("uncovered in " + d[0] + " ticks", x.bestWait(0, 0), d[1]);
            Due.is("uncovered in " + d[0] + " ticks, votes", x.bestWait(0, 1), d[2]);
            Due.is("the votes of a frame in so many ticks", votesIn(x, d[1]), d[2]);
            Due.is("the votes of one sooner", votesIn(x, d[1] - 1), d[2] - (d[0] == 5 ? 2 : 1));
        }
        RowVotes x = uncovered(40);
        for (int wait = 1; wait < 40; wait++) {
            Due.is("fewer votes in " + wait, votesIn(x, wait), wait < 5 ? 1 : 2);
        }
        x.pass(1);
        Due.is("a tick later", x.bestWait(0, 0), 39);
    }

    /** The votes for the shift that would be told by a frame in so many ticks; the camera is as it was then. */
    private static int votesIn(RowVotes x, int ticks) {
        x.pass(ticks);
        x.shoot();
        int last = x.count(1) - 1;
        int told = x.shift(0, last);
        int votes = told == Cameras.NONE ? 0 : Integer.bitCount(x.voters(0, last, told));
        x.undo();
        x.undo();
        return votes;
    }

    private static void noWait() {
        Due.sentence("NOT_FOUND if no shift would be told by any of them.");
        RowVotes x = Cameras.of(2, 16, 0);
        x.shoot();
        Due.is("no edges", x.bestWait(0, 0), Cameras.NONE);
        Due.is("no edges, votes", x.bestWait(0, 1), Cameras.NONE);
        Due.is("no edges, what is wrong", x.bestWait(0, 2), Cameras.INVALID);
        Due.is("no edges, no such frame", x.bestWait(1, 0), Cameras.INVALID);
        Cameras.edge(x, 0, 0, 5, 0);
        Due.is("no edges in the first one", x.bestWait(0, 0), Cameras.NONE);
        x.shoot();
        Due.is("edges in the first one", x.bestWait(1, 0), 1);
        x.blind(0, 1);
        Due.is("it is blinded now", x.bestWait(1, 0), Cameras.NONE);
        x.shoot();
        x.blind(0, 0);
        Due.is("it was blinded then", x.bestWait(2, 0), Cameras.NONE);
    }

    /** Row 1 votes for another shift than row 0 until it is nine columns away. */
    private static void waitsTieIsNotTold() {
        Due.sentence("a shift is told by more votes than with any other number of ticks");
        RowVotes x = Cameras.of(2, 16, 0);
        Cameras.edge(x, 0, 0, 5, 0);
        Cameras.edge(x, 1, 1, 5, 100);
        x.shoot();
        x.pass(1);
        Due.is("one row against one for 7 ticks", x.bestWait(0, 0), 8);
        Due.is("one vote then", x.bestWait(0, 1), 1);
        x.pass(6);
        Due.is("one row against one for a tick", x.bestWait(0, 0), 2);
        x.pass(1);
        Due.is("one row against one now", x.bestWait(0, 0), 1);
        x.turn(1, 0);
        Due.is("one row against one for ever", x.bestWait(0, 0), Cameras.NONE);
        Due.is("one row against one for ever, votes", x.bestWait(0, 1), Cameras.NONE);
    }

    private static void waitAsItIsNow() {
        Due.sentence("with all as it moves and is blinded now,");
        RowVotes x = Cameras.of(4, 16, 0);
        Cameras.edge(x, 0, 3, 5, 0);
        x.shoot();
        Due.is("none is blinded", x.bestWait(0, 1), 4);
        x.blind(0, 1);
        Due.is("one is blinded", x.bestWait(0, 1), 3);
        x.blind(9, 1);
        Due.is("one is blinded that there is not", x.bestWait(0, 1), 3);
        x.turn(0, 200);
        x.pass(2);
        Due.is("it moves now", x.bestWait(0, 0), 1);
        x.pass(2);
        Due.is("it has moved too far", x.bestWait(0, 0), Cameras.NONE);
        x.turn(0, -200);
        Due.is("it comes back", x.bestWait(0, 0), 1);
        Due.is("frames are as they were", x.count(1), 1);
        Due.is("frames taken are as they were", x.count(4), 1);
    }
}
