/** Boundary cases of votes, promises 14 to 18 and 22: each sentence of the document has its own test. */
public final class BoundaryVotesTest {
    public static void main(String[] args) {
        shiftsOfARow();
        shiftsOfARowBeyond();
        shiftsAlike();
        mostEdges();
        noEdgeInTheColumnZero();
        blindedInOneOfThem();
        noSuchEdge();
        rowsThatVote();
        sameFrame();
        twoFrames();
        mostRows();
        mostRowsThreeShifts();
        severalShifts();
        noVote();
        shiftsToldOfReach();
        shiftsAskedFor();
        votersOfAllRows();
        dissentOfThoseWithAVote();
        dissentOfNobody();
        speedTowardZero();
        speedBackwards();
        speedAtTheSameTime();
        judged();
        judgedOtherwise();
        judgedReturns();
        judgedFirstBehindSecond();
        Due.end();
    }

    /** One row with one edge, that goes from a column to another one. */
    private static RowVotes oneEdge(int from, int to) {
        return Cameras.edges(1, new int[] {0, 0, from, to});
    }

    /** One row of 16 columns, and things in it: each by its column in the first frame and in the second one, and its columns. */
    private static RowVotes oneRow(int[]... things) {
        RowVotes x = Cameras.of(1, 16, 0);
        for (int[] t : things) {
            x.thing(0, 0, 100 * t[0], 10 * (t[1] - t[0]), 100 * t[2], 200);
        }
        x.shoot();
        x.pass(10);
        x.shoot();
        return x;
    }

    private static void shiftsOfARow() {
        Due.sentence("Of two frames, the first and the second one, a row votes for the shift k, from -8 to 8,");
        int[][] moves = {{1, 1}, {1, 2}, {1, 8}, {1, 9}, {7, 14}, {7, 15}, {15, 14}, {15, 8}, {15, 7}, {9, 2}, {9, 1}};
        for (int[] move : moves) {
            RowVotes x = oneEdge(move[0], move[1]);
            String of = "from " + move[0] + " to " + move[1];
            Due.is(of, x.vote(0, 1, 0), move[1] - move[0]);
            Due.is(of + ", back", x.vote(1, 0, 0), move[0] - move[1]);
            Due.is(of + ", told", x.shift(0, 1), move[1] - move[0]);
            Due.is(of + ", weighed", x.weighed(0, 1), move[1] - move[0]);
            Due.is(of + ", who votes", x.voters(0, 1, move[1] - move[0]), 1);
        }
    }

    private static void shiftsOfARowBeyond() {
        Due.sentence("a row votes for the shift k, from -8 to 8,");
        int[][] moves = {{1, 10}, {1, 15}, {6, 15}, {15, 6}, {15, 1}, {10, 1}};
        for (int[] move : moves) {
            RowVotes x = oneEdge(move[0], move[1]);
            String of = "from " + move[0] + " to " + move[1];
            Due.is(of, x.vote(0, 1, 0), Cameras.NONE);
            Due.is(of + ", back", x.vote(1, 0, 0), Cameras.NONE);
            Due.is(of + ", told", x.shift(0, 1), Cameras.NONE);
            Due.is(of + ", weighed", x.weighed(0, 1), Cameras.NONE);
        }
    }

    private static void shiftsAlike() {
        Due.sentence("of several it is the one with the least size, of these the negative one.");
        int[][] due = {
            // the edge in the first frame, both edges in the second one, the vote
            {5, 4, 6, -1}, {5, 3, 6, 1}, {5, 4, 7, -1}, {5, 5, 6, 0}, {5, 4, 5, 0}, {5, 5, 13, 0}, {10, 2, 10, 0},
            {8, 1, 15, -7}, {8, 2, 15, -6}, {8, 1, 14, 6}, {8, 6, 10, -2}, {7, 5, 10, -2}, {7, 4, 9, 2},
            {9, 1, 15, 6}, {7, 1, 15, -6}, {6, 14, 15, 8}, {10, 1, 2, -8}, {6, 2, 14, -4}};
        for (int[] d : due) {
            RowVotes x = oneRow(new int[] {d[0], d[0] + 14, 16}, new int[] {d[1] + 16, d[1], d[2] - d[1]});
            String of = d[0] + " to " + d[1] + " and " + d[2];
            Due.is(of + ", the first edges", x.edges(0, 0), 1 << d[0]);
            Due.is(of + ", the second edges", x.edges(1, 0), (1 << d[1]) + (1 << d[2]));
            Due.is(of, x.vote(0, 1, 0), d[3]);
            Due.is(of + ", told", x.shift(0, 1), d[3]);
        }
        RowVotes x = oneRow(new int[] {4, 18, 2}, new int[] {20, 3, 2}, new int[] {17, 7, 16});
        Due.is("two edges, both sides, the first edges", x.edges(0, 0), 16 + 64);
        Due.is("two edges, both sides, the second edges", x.edges(1, 0), 8 + 32 + 128);
        Due.is("two edges by -1 and by 1", x.vote(0, 1, 0), -1);
        Due.is("two edges by -1 and by 1, back", x.vote(1, 0, 0), -1);
    }

    private static void mostEdges() {
        Due.sentence("for which most edges c of the first one have an edge c + k of the second one;");
        int[][] due = {
            // from, to, the vote: two edges by it, though one edge by a lesser shift
            {2, 5, 3}, {2, 9, 7}, {2, 10, 8}, {11, 4, -7}, {11, 3, -8}, {5, 2, -3},
            // two edges by 9 or -9, which is no shift: one edge by 7 or -7
            {2, 11, 7}, {11, 2, -7}};
        for (int[] d : due) {
            RowVotes x = oneRow(new int[] {d[0], d[1], 2});
            Due.is("from " + d[0] + " to " + d[1], x.vote(0, 1, 0), d[2]);
            Due.is("from " + d[0] + " to " + d[1] + ", back", x.vote(1, 0, 0), -d[2]);
        }
        // 3 and 6 have gone to 5 and 8, but another thing of the same brightness has come over 8
        RowVotes x = oneRow(new int[] {3, 5, 3}, new int[] {21, 7, 16});
        Due.is("the first edges", x.edges(0, 0), 8 + 64);
        Due.is("the second edges", x.edges(1, 0), 32);
        Due.is("one edge is covered", x.vote(0, 1, 0), -1);
    }

    private static void noEdgeInTheColumnZero() {
        Due.sentence("for which most edges c of the first one have an edge c + k of the second one;");
        Due.is("from 1 to 0", oneEdge(1, 0).vote(0, 1, 0), Cameras.NONE);
        Due.is("from 8 to 0", oneEdge(8, 0).vote(0, 1, 0), Cameras.NONE);
        Due.is("from 8 to 0, back", oneEdge(8, 0).vote(1, 0, 0), Cameras.NONE);
        Due.is("from 15 to 16", oneEdge(15, 16).vote(0, 1, 0), Cameras.NONE);
        Due.is("from 8 to 16", oneEdge(8, 16).vote(0, 1, 0), Cameras.NONE);
        Due.is("from 16 to 8", oneEdge(16, 8).vote(0, 1, 0), Cameras.NONE);
        RowVotes x = oneRow(new int[] {1, 0, 3});
        Due.is("the left side in the column 0", x.edges(1, 0), 8);
        Due.is("only the right side is seen to move", x.vote(0, 1, 0), -1);
    }

    private static void blindedInOneOfThem() {
        Due.sentence("It has no vote if it was blinded in one of them,");
        RowVotes x = Cameras.of(4, 16, 0);
        Cameras.edge(x, 0, 3, 5, 0);
        x.blind(1, 1);
        x.blind(3, 1);
        x.shoot();
        x.blind(1, 0);
        x.blind(2, 1);
        x.shoot();
        x.blind(0, 1);
        Due.is("blinded in none of them, though now", x.vote(0, 1, 0), 0);
        Due.is("blinded in the first one", x.vote(0, 1, 1), Cameras.NONE);
        Due.is("blinded in the first one, back", x.vote(1, 0, 1), Cameras.NONE);
        Due.is("blinded in the second one", x.vote(0, 1, 2), Cameras.NONE);
        Due.is("blinded in the second one, back", x.vote(1, 0, 2), Cameras.NONE);
        Due.is("blinded in both of them", x.vote(0, 1, 3), Cameras.NONE);
        Due.is("who votes", x.voters(0, 1, 0), 1);
        Due.is("how many have a vote", x.judge(0, 1), 1);
    }

    private static void noSuchEdge() {
        Due.sentence("or if for no shift there is any such edge.");
        RowVotes x = Cameras.edges(4, new int[] {0, 0, 5, 5}, new int[] {1, 1, 5, 16}, new int[] {2, 2, 16, 5});
        Due.is("an edge in both", x.vote(0, 1, 0), 0);
        Due.is("no edge in the second one", x.vote(0, 1, 1), Cameras.NONE);
        Due.is("no edge in the first one", x.vote(0, 1, 2), Cameras.NONE);
        Due.is("no edge at all", x.vote(0, 1, 3), Cameras.NONE);
        x.set(3, 180);
        Due.is("the threshold is just met", x.vote(0, 1, 0), 0);
        x.set(3, 181);
        Due.is("the threshold is not met", x.vote(0, 1, 0), Cameras.NONE);
    }

    private static void rowsThatVote() {
        Due.sentence("Returns the shift; INVALID_ARGUMENT if an argument is out of range or both frames are the same; "
            + "NOT_FOUND if it has no vote.");
        RowVotes x = Cameras.edges(10, new int[] {0, 0, 5, 6}, new int[] {9, 9, 5, 7});
        Due.is("row 0", x.vote(0, 1, 0), 1);
        Due.is("row 1", x.vote(0, 1, 1), Cameras.NONE);
        Due.is("row 9", x.vote(0, 1, 9), 2);
        for (int row : new int[] {-1, 10, Integer.MIN_VALUE, Integer.MAX_VALUE}) {
            Due.is("row " + row, x.vote(0, 1, row), Cameras.INVALID);
        }
        Due.is("the same frame", x.vote(0, 0, 0), Cameras.INVALID);
        Due.is("the same frame, a row without a vote", x.vote(1, 1, 1), Cameras.INVALID);
        Due.is("a frame that there is not, a row without a vote", x.vote(0, 2, 1), Cameras.INVALID);
    }

    /** Each call with a pair of frames, that is refused. */
    private static void refused(RowVotes x, int first, int second) {
        String of = "(" + first + ", " + second + ")";
        Due.is("vote" + of, x.vote(first, second, 0), Cameras.INVALID);
        Due.is("shift" + of, x.shift(first, second), Cameras.INVALID);
        Due.is("voters" + of, x.voters(first, second, 0), Cameras.INVALID);
        Due.is("dissent" + of, x.dissent(first, second), Cameras.INVALID);
        Due.is("speed" + of, x.speed(first, second), Cameras.INVALID);
        Due.is("weighed" + of, x.weighed(first, second), Cameras.INVALID);
        Due.is("judge" + of, x.judge(first, second), Cameras.INVALID);
    }

    private static void sameFrame() {
        Due.sentence("INVALID_ARGUMENT if an argument is out of range or both frames are the same");
        RowVotes x = Cameras.of(2, 16, 0);
        Cameras.edge(x, 0, 1, 5, 10);
        for (int frames = 0; frames <= 5; frames++) {
            for (int frame = -1; frame <= frames; frame++) {
                refused(x, frame, frame);
            }
            x.shoot();
            x.pass(10);
        }
        Due.is("judged by nobody", x.rowOf(0, 1) + x.rowOf(0, 2), 0);
    }

    private static void twoFrames() {
        Due.sentence("- `first`: number of a frame\n- `second`: number of another frame");
        RowVotes x = Cameras.of(2, 16, 0);
        Cameras.edge(x, 0, 1, 1, 10);
        for (int i = 0; i < 5; i++) {
            x.shoot();
            x.pass(10);
        }
        for (int first = 0; first < 5; first++) {
            for (int second = 0; second < 5; second++) {
                if (first != second) {
                    Due.is("shift(" + first + ", " + second + ")", x.shift(first, second), second - first);
                    Due.is("vote(" + first + ", " + second + ", 1)", x.vote(first, second, 1), second - first);
                }
            }
        }
        int[] wrong = {-1, 5, Integer.MIN_VALUE, Integer.MAX_VALUE};
        for (int frame : wrong) {
            refused(x, 0, frame);
            refused(x, 4, frame);
            refused(x, frame, 0);
            refused(x, frame, 4);
        }
    }

    private static void mostRows() {
        Due.sentence("The shift that most rows vote for is told;");
        RowVotes x = Cameras.edges(1, new int[] {0, 0, 5, 8});
        Due.is("one row", x.shift(0, 1), 3);
        x = Cameras.edges(10, new int[] {7, 7, 5, 8});
        Due.is("one row of ten", x.shift(0, 1), 3);
        x = Cameras.edges(3, new int[] {0, 0, 5, 6}, new int[] {1, 2, 5, 7});
        Due.is("two rows against one", x.shift(0, 1), 2);
        Due.is("two rows against one, back", x.shift(1, 0), -2);
        x = Cameras.edges(9, new int[] {0, 4, 5, 6}, new int[] {5, 8, 5, 7});
        Due.is("five rows against four", x.shift(0, 1), 1);
        x = Cameras.edges(10, new int[] {0, 8, 5, 6}, new int[] {9, 9, 5, 5});
        Due.is("nine rows against one", x.shift(0, 1), 1);
        x = Cameras.edges(10, new int[] {0, 9, 9, 1});
        Due.is("all rows", x.shift(0, 1), -8);
        x = Cameras.edges(10, new int[] {0, 9, 5, 5});
        Due.is("all rows, by nothing", x.shift(0, 1), 0);
    }

    private static void mostRowsThreeShifts() {
        Due.sentence("The shift that most rows vote for is told;");
        RowVotes x = Cameras.edges(7, new int[] {0, 1, 5, 6}, new int[] {2, 4, 5, 7}, new int[] {5, 6, 5, 4});
        Due.is("three of seven, two and two", x.shift(0, 1), 2);
        x = Cameras.edges(7, new int[] {0, 2, 5, 6}, new int[] {3, 5, 5, 7}, new int[] {6, 6, 5, 4});
        Due.is("three, three and one", x.shift(0, 1), Cameras.NONE);
        x = Cameras.edges(6, new int[] {0, 1, 5, 6}, new int[] {2, 3, 5, 7}, new int[] {4, 5, 5, 4});
        Due.is("two, two and two", x.shift(0, 1), Cameras.NONE);
        x = Cameras.edges(5, new int[] {0, 1, 5, 6}, new int[] {2, 2, 5, 7}, new int[] {3, 3, 5, 4}, new int[] {4, 4, 5, 5});
        Due.is("two of five, one, one and one", x.shift(0, 1), 1);
    }

    private static void severalShifts() {
        Due.sentence("if there is no vote, or several shifts have the most votes, none is told.");
        for (int each = 1; each <= 5; each++) {
            RowVotes x = Cameras.edges(2 * each, new int[] {0, each - 1, 5, 4}, new int[] {each, 2 * each - 1, 5, 6});
            Due.is(each + " rows against as many", x.shift(0, 1), Cameras.NONE);
            Due.is(each + " rows against as many, back", x.shift(1, 0), Cameras.NONE);
            Due.is(each + " rows against as many, weighed", x.weighed(0, 1), Cameras.NONE);
            x.blind(0, 1);
            x.shoot();
            Due.is(each + " rows against one less", x.shift(0, 2), 1);
            x.blind(0, 0);
            x.blind(each, 1);
            x.shoot();
            Due.is(each + " rows against one more", x.shift(0, 3), -1);
        }
    }

    private static void noVote() {
        Due.sentence("if there is no vote, or several shifts have the most votes, none is told.");
        RowVotes x = Cameras.edges(6);
        Due.is("no edges", x.shift(0, 1), Cameras.NONE);
        Due.is("no edges, weighed", x.weighed(0, 1), Cameras.NONE);
        Due.is("no edges, dissent", x.dissent(0, 1), Cameras.NONE);
        Due.is("no edges, speed", x.speed(0, 1), Cameras.NONE);
        Due.is("no edges, judge", x.judge(0, 1), Cameras.NONE);
        Due.is("no edges, voters", x.voters(0, 1, 0), 0);
        x = Cameras.edges(6, new int[] {3, 3, 5, 5});
        Due.is("one vote", x.shift(0, 1), 0);
        x.blind(3, 1);
        x.shoot();
        Due.is("that row is blinded", x.shift(0, 2), Cameras.NONE);
        x.set(3, 255);
        Due.is("too great a threshold", x.shift(0, 1), Cameras.NONE);
    }

    private static void shiftsToldOfReach() {
        Due.sentence("Returns the shift; INVALID_ARGUMENT if an argument is out of range or both frames are the same; "
            + "NOT_FOUND if none is told.");
        int[][] due = {{1, 8, 7}, {1, 9, 8}, {1, 10, Cameras.NONE}, {10, 3, -7}, {10, 2, -8}, {10, 1, Cameras.NONE}};
        for (int[] d : due) {
            RowVotes x = Cameras.edges(3, new int[] {0, 2, d[0], d[1]});
            Due.is("from " + d[0] + " to " + d[1], x.shift(0, 1), d[2]);
        }
    }

    private static void shiftsAskedFor() {
        Due.sentence("- `shift`: -8 to 8");
        RowVotes x = Cameras.edges(6, new int[] {0, 0, 9, 1}, new int[] {1, 1, 1, 9}, new int[] {2, 3, 5, 5});
        for (int shift : new int[] {-9, 9, -10, 10, Cameras.NONE, Integer.MIN_VALUE, Integer.MAX_VALUE}) {
            Due.is("voters for " + shift, x.voters(0, 1, shift), Cameras.INVALID);
        }
        for (int shift = -8; shift <= 8; shift++) {
            int due = shift == -8 ? 1 : shift == 8 ? 2 : shift == 0 ? 12 : 0;
            Due.is("voters for " + shift, x.voters(0, 1, shift), due);
        }
        Due.is("9 between the same frame", x.voters(0, 0, 9), Cameras.INVALID);
    }

    private static void votersOfAllRows() {
        Due.sentence("Returns the set of rows; INVALID_ARGUMENT if an argument is out of range or both frames are the same.");
        for (int rows = 1; rows <= 10; rows++) {
            RowVotes x = Cameras.edges(rows, new int[] {0, 9, 5, 6});
            Due.is("all of " + rows, x.voters(0, 1, 1), (1 << rows) - 1);
            Due.is("none of " + rows, x.voters(0, 1, 0), 0);
            x = Cameras.edges(rows, new int[] {rows - 1, 9, 5, 6});
            Due.is("the last of " + rows, x.voters(0, 1, 1), 1 << (rows - 1));
        }
    }

    private static void dissentOfThoseWithAVote() {
        Due.sentence("Returns the rows that vote for another shift than the one that is told.");
        RowVotes x = Cameras.edges(8, new int[] {0, 2, 5, 6}, new int[] {3, 4, 5, 4}, new int[] {7, 7, 5, 5});
        Due.is("-1 and 0 against 1", x.dissent(0, 1), 8 + 16 + 128);
        Due.is("back", x.dissent(1, 0), 8 + 16 + 128);
        x.blind(7, 1);
        x.blind(3, 1);
        x.shoot();
        Due.is("two of them are blinded", x.dissent(0, 2), 16);
        x.blind(0, 1);
        x.shoot();
        Due.is("two rows against one", x.dissent(0, 3), 16);
        x.blind(1, 1);
        x.shoot();
        Due.is("one row against one", x.dissent(0, 4), Cameras.NONE);
    }

    private static void dissentOfNobody() {
        Due.sentence("Returns the set of rows; INVALID_ARGUMENT if an argument is out of range or both frames are the same; "
            + "NOT_FOUND if none is told.");
        RowVotes x = Cameras.edges(10, new int[] {0, 9, 5, 6});
        Due.is("all agree", x.dissent(0, 1), 0);
        x = Cameras.edges(10, new int[] {0, 8, 5, 6}, new int[] {9, 9, 5, 7});
        Due.is("all but the last one agree", x.dissent(0, 1), 512);
        x = Cameras.edges(2, new int[] {0, 0, 5, 6}, new int[] {1, 1, 5, 7});
        Due.is("none is told", x.dissent(0, 1), Cameras.NONE);
        Due.is("none is told, the same frame", x.dissent(0, 0), Cameras.INVALID);
        Due.is("none is told, no such frame", x.dissent(2, 0), Cameras.INVALID);
    }

    /** Two frames of an edge that goes on by a column a tick until it has gone so far, then rests. */
    private static RowVotes goneAndRested(int from, int shift, int ticks) {
        RowVotes x = Cameras.of(3, 16, 0);
        Cameras.edge(x, 0, 2, from, 0);
        x.shoot();
        int moving = Math.abs(shift);
        if (moving > 0) {
            x.turn(0, 100 * Integer.signum(shift));
            x.pass(moving);
            x.turn(0, 0);
        }
        Cameras.passTo(x, ticks);
        x.shoot();
        return x;
    }

    private static void speedTowardZero() {
        Due.sentence("the shift that is told, times 100, divided by the time of the second frame minus that of the first one, "
            + "rounded toward 0.");
        int[][] due = {{1, 1, 100}, {1, 2, 50}, {1, 3, 33}, {2, 3, 66}, {8, 9, 88}, {8, 8, 100}, {1, 99, 1}, {1, 100, 1},
            {1, 101, 0}, {1, 200, 0}, {2, 199, 1}, {2, 200, 1}, {2, 201, 0}, {8, 801, 0}, {8, 800, 1}, {7, 201, 3},
            {1, 20000, 0}, {0, 1, 0}, {0, 200, 0}, {3, 7, 42}};
        for (int[] d : due) {
            RowVotes x = goneAndRested(4, d[0], d[1]);
            String of = d[0] + " in " + d[1] + " ticks";
            Due.is(of, x.speed(0, 1), d[2]);
            Due.is(of + ", the first frame behind the second one", x.speed(1, 0), d[2]);
            x = goneAndRested(11, -d[0], d[1]);
            Due.is("-" + of, x.speed(0, 1), -d[2]);
            Due.is("-" + of + ", the first frame behind the second one", x.speed(1, 0), -d[2]);
        }
    }

    private static void speedBackwards() {
        Due.sentence("votes; the first frame may be taken behind the second one.");
        RowVotes x = goneAndRested(4, 2, 3);
        Due.is("vote", x.vote(1, 0, 0), -2);
        Due.is("shift", x.shift(1, 0), -2);
        Due.is("voters", x.voters(1, 0, -2), 7);
        Due.is("voters for the other side", x.voters(1, 0, 2), 0);
        Due.is("dissent", x.dissent(1, 0), 0);
        Due.is("speed", x.speed(1, 0), 66);
        Due.is("weighed", x.weighed(1, 0), -2);
        Due.is("judge", x.judge(1, 0), 3);
        Due.is("who agreed", x.rowOf(0, 1), 1);
        x.pass(1);
        Due.is("bestWait", x.bestWait(1, 0), 1);
    }

    private static void speedAtTheSameTime() {
        Due.sentence("NOT_POSSIBLE if both have the same time; NOT_FOUND if no shift is told.");
        RowVotes x = Cameras.of(2, 16, 0);
        Cameras.edge(x, 0, 0, 5, 100);
        x.shoot();
        x.shoot();
        x.pass(1);
        x.shoot();
        Due.is("the same time, a shift is told", x.speed(0, 1), Cameras.IMPOSSIBLE);
        Due.is("the same time, back", x.speed(1, 0), Cameras.IMPOSSIBLE);
        Due.is("a tick later", x.speed(1, 2), 100);
        Due.is("a tick sooner", x.speed(2, 1), 100);
        x.set(3, 255);
        Due.is("the same time, none is told", x.speed(0, 1), Cameras.IMPOSSIBLE);
        Due.is("a tick later, none is told", x.speed(1, 2), Cameras.NONE);
        Due.is("the same frame, none is told", x.speed(1, 1), Cameras.INVALID);
        Due.is("no such frame, none is told", x.speed(1, 3), Cameras.INVALID);
    }

    private static int times(RowVotes x, int what) {
        int times = 0;
        for (int row = 9; row >= 0; row--) {
            times = 10 * times + x.rowOf(row, what);
        }
        return times;
    }

    private static void judged() {
        Due.sentence("by two frames of which a shift is told, each row that votes for it agrees once more, "
            + "each other row with a vote dissents once more.");
        RowVotes x = Cameras.edges(7, new int[] {0, 2, 5, 6}, new int[] {3, 4, 5, 4}, new int[] {6, 6, 5, 5});
        Due.is("agreed before", times(x, 1), 0);
        Due.is("judge", x.judge(0, 1), 6);
        Due.is("agreed", times(x, 1), 111);
        Due.is("dissented", times(x, 2), 1011000);
        Due.is("judge again", x.judge(0, 1), 6);
        Due.is("agreed twice", times(x, 1), 222);
        Due.is("dissented twice", times(x, 2), 2022000);
        x.blind(0, 1);
        x.blind(6, 1);
        x.shoot();
        Due.is("two against two", x.judge(0, 2), Cameras.NONE);
        Due.is("agreed as before", times(x, 1), 222);
        Due.is("dissented as before", times(x, 2), 2022000);
        x.blind(3, 1);
        x.shoot();
        Due.is("two against one", x.judge(0, 3), 3);
        Due.is("those that were blinded did not agree", times(x, 1), 332);
        Due.is("those that were blinded did not dissent", times(x, 2), 2032000);
    }

    private static void judgedOtherwise() {
        Due.sentence("A row agrees and dissents as it is judged:");
        RowVotes x = Cameras.edges(3, new int[] {0, 1, 5, 6}, new int[] {2, 2, 5, 7});
        x.shift(0, 1);
        x.weighed(0, 1);
        x.dissent(0, 1);
        Due.is("nobody agrees without judge", times(x, 1), 0);
        Due.is("nobody dissents without judge", times(x, 2), 0);
        x.judge(0, 1);
        x.forget(0);
        Due.is("the frame is forgotten", times(x, 1), 11);
        x.undo();
        x.undo();
        Due.is("judge is undone", times(x, 1), 0);
        Due.is("and the dissent", times(x, 2), 0);
    }

    private static void judgedReturns() {
        Due.sentence("Returns how many rows have a vote; INVALID_ARGUMENT if an argument is out of range or both frames are "
            + "the same; NOT_FOUND if no shift is told.");
        for (int rows = 1; rows <= 10; rows++) {
            RowVotes x = Cameras.edges(rows, new int[] {0, 9, 5, 6});
            Due.is("all of " + rows, x.judge(0, 1), rows);
            Due.is("the last one agreed", x.rowOf(rows - 1, 1), 1);
        }
        RowVotes x = Cameras.edges(10, new int[] {9, 9, 5, 6});
        Due.is("one of ten", x.judge(0, 1), 1);
        Due.is("the same frame", x.judge(0, 0), Cameras.INVALID);
        x.set(3, 255);
        Due.is("none is told", x.judge(0, 1), Cameras.NONE);
        Due.is("none is told, the same frame", x.judge(1, 1), Cameras.INVALID);
    }

    private static void judgedFirstBehindSecond() {
        Due.sentence("the first frame may be taken behind the second one");
        RowVotes x = Cameras.edges(3, new int[] {0, 1, 5, 6}, new int[] {2, 2, 5, 7});
        Due.is("judge", x.judge(1, 0), 3);
        Due.is("agreed", times(x, 1), 11);
        Due.is("dissented", times(x, 2), 100);
        Due.is("judge the other way round", x.judge(0, 1), 3);
        Due.is("agreed twice", times(x, 1), 22);
    }
}
