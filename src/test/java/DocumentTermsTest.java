/** The document from its first line to "Changes and errors", in its order: what it says as a rule, not at its edges. */
public final class DocumentTermsTest {
    private static final int INVALID = Cameras.INVALID;
    private static final int IMPOSSIBLE = Cameras.IMPOSSIBLE;
    private static final int LIMIT = Cameras.LIMIT;
    private static final int NONE = Cameras.NONE;

    public static void main(String[] args) {
        allCallsOfAnObject();
        units();
        sets();
        settings();
        thing();
        turned();
        lamp();
        shownInARow();
        frame();
        edge();
        voteOfARow();
        voteLost();
        told();
        slants();
        judged();
        weight();
        motion();
        period();
        orders();
        minusAndZero();
        fault();
        cause();
        changes();
        sameAgain();
        history();
        errors();
        constants();
        Due.end();
    }

    private static void allCallsOfAnObject() {
        Due.sentence("An object is used for at most 512 calls after it has been made;");
        RowVotes timed = new RowVotes();
        RowVotes filled = new RowVotes();
        RowVotes typed = new RowVotes();
        for (int call = 1; call <= 512; call++) {
            Due.is("pass, call " + call, timed.pass(1), call);
            Due.is("shoot, call " + call, filled.shoot(), Math.min(5, call));
            Due.is("type, call " + call, typed.type(';'), call <= 80 ? call : LIMIT);
        }
        RowVotes judging = Cameras.edges(3, new int[] {0, 2, 3, 5});
        for (int call = 8; call <= 511; call++) {
            Due.is("judge, call " + call, judging.judge(0, 1), 3);
        }
        Due.is("how often a row has agreed, call 512", judging.rowOf(2, 1), 504);
    }

    private static void units() {
        Due.sentence("Time is told in ticks, 0 at first; positions are told in hundredths of a column.");
        RowVotes x = new RowVotes();
        Due.is("the time at first", x.count(2), 0);
        x.thing(0, 0, 300, 0, 100, 200);
        for (int column = 0; column < 12; column++) {
            Due.is("a thing at 300, as wide as a column, in " + column, x.shows(0, column, 0), column == 3 ? 200 : 20);
        }
        Due.is("pass", x.pass(3), 3);
        Due.is("the time", x.count(2), 3);
        x.shoot();
        Due.is("the time of the frame", x.frameOf(0, 0), 3);
    }

    private static void sets() {
        Due.sentence("Sets are told as bits: bit k is for number k.");
        RowVotes x = Cameras.edges(5, new int[] {0, 1, 3, 5}, new int[] {3, 4, 9, 11}, new int[] {2, 2, 4, 3});
        x.blind(4, 1);
        x.blind(9, 1);
        x.shoot();
        Due.is("edges of row 0", x.edges(0, 0), 1 << 3);
        Due.is("edges of row 3", x.edges(0, 3), 1 << 9);
        Due.is("rows that were blinded", x.frameOf(2, 1), 1 << 4);
        Due.is("voters for 2", x.voters(0, 1, 2), 1 + 2 + 8 + 16);
        Due.is("voters for -1", x.voters(0, 1, -1), 4);
        Due.is("dissent", x.dissent(0, 1), 4);
        Due.is("rows that fit frame 2", x.fitting(2), 1 + 2 + 4 + 8);
        Due.is("periods", x.periods(), (1 << 21) - 1);
    }

    private static void settings() {
        Due.sentence("The settings are (in parentheses: range; first value): 0 the rows (1 to 10; 6), 1 the columns "
            + "(4 to 16; 12), 2 the delay of a row (0 to 9; 1), 3 the threshold (1 to 255; 40), 4 the ground "
            + "(0 to 255; 20), 5 the period of the lamp (0 to 20; 0: it is never dark), 6 its dark ticks (0 to 20; 0), "
            + "7 the dim (0 to 100; 50).");
        int[][] settings = {{1, 10, 6}, {4, 16, 12}, {0, 9, 1}, {1, 255, 40}, {0, 255, 20}, {0, 20, 0}, {0, 20, 0},
            {0, 100, 50}};
        for (int what = 0; what < settings.length; what++) {
            RowVotes x = new RowVotes();
            int least = settings[what][0];
            int most = settings[what][1];
            Due.is("setting " + what + " at first", x.count(10 + what), settings[what][2]);
            Due.is("below its range", x.set(what, least - 1), INVALID);
            Due.is("above its range", x.set(what, most + 1), INVALID);
            Due.is("the least", x.set(what, least), settings[what][2]);
            Due.is("the most", x.set(what, most), least);
            Due.is("between them", x.set(what, (least + most) / 2), most);
            Due.is("what it is then", x.count(10 + what), (least + most) / 2);
            for (int other = 0; other < settings.length; other++) {
                if (other != what) {
                    Due.is("setting " + other + " stays", x.count(10 + other), settings[other][2]);
                }
            }
        }
    }

    private static void thing() {
        Due.sentence("each with a top row and a bottom row, a position (of its left side), a speed, in hundredths of a "
            + "column by tick, a width, in hundredths, and a brightness.");
        RowVotes x = new RowVotes();
        x.thing(1, 3, 250, 100, 200, 77);
        int[] numbers = {1, 3, 250, 100, 200, 77};
        for (int what = 0; what < numbers.length; what++) {
            Due.is("thingOf(0, " + what + ")", x.thingOf(0, what), numbers[what]);
        }
        // from 250 to 450 at the time 0, a column more to the right with each tick
        for (int time = 0; time < 5; time++) {
            for (int column = 0; column < 12; column++) {
                boolean covered = column == 2 + time || column == 3 + time;
                for (int row = 0; row < 6; row++) {
                    Due.is("shows(" + row + ", " + column + ", " + time + ")", x.shows(row, column, time),
                        covered && row >= 1 && row <= 3 ? 77 : 20);
                }
            }
        }
    }

    private static void turned() {
        Due.sentence("If a thing is turned, it goes on from the position that it has at the present time, with another "
            + "speed (its position is told anew, so that this is so).");
        RowVotes x = new RowVotes();
        x.thing(0, 5, 100, 50, 100, 200);
        x.pass(8);
        Due.is("turn", x.turn(0, -20), 50);
        Due.is("where it is", x.thingOf(0, 6), 500);
        Due.is("its position at the time 0", x.thingOf(0, 2), 660);
        x.pass(5);
        Due.is("where it is later", x.thingOf(0, 6), 400);
        Due.is("turn again", x.turn(0, 0), -20);
        Due.is("it rests there", x.thingOf(0, 2), 400);
        Due.is("at the time 0 too", x.shows(0, 4, 0), 200);
    }

    private static void lamp() {
        Due.sentence("The lamp is dark at a time t if its period is not 0 and t mod its period is less than its dark ticks.");
        RowVotes x = new RowVotes();
        Cameras.lamp(x, 7, 3, 50);
        for (int time = 0; time < 30; time++) {
            Due.is("shows at " + time, x.shows(0, 0, time), time % 7 < 3 ? 10 : 20);
            Due.is("dark at " + time, x.count(5), time % 7 < 3 ? 1 : 0);
            x.pass(1);
        }
    }

    private static void shownInARow() {
        Due.sentence("In a row r at a time t a column c shows the brightness of the thing with the greatest number that is "
            + "in this row (from its top to its bottom one) and that covers the middle of the column: its position at t is "
            + "at most 100 * c + 50, and its position at t plus its width is above this; without any it shows the ground. "
            + "If the lamp is dark at t, this is multiplied by the dim and divided by 100, rounded down.");
        for (int time = 0; time < 12; time++) {
            RowVotes x = Cameras.of(6, 12, 9);
            x.thing(0, 5, 0, 100, 100, 99);
            x.thing(2, 3, 150, 100, 200, 201);
            Cameras.lamp(x, 5, 1, 33);
            // at t itself, whatever the delay of the row is
            int percent = time % 5 < 1 ? 33 : 100;
            for (int row = 0; row < 6; row++) {
                for (int column = 0; column < 12; column++) {
                    int middle = 100 * column + 50 - 100 * time;
                    boolean second = row >= 2 && row <= 3 && middle >= 150 && middle < 350;
                    int bright = second ? 201 : middle >= 0 && middle < 100 ? 99 : 20;
                    Due.is("shows(" + row + ", " + column + ", " + time + ")", x.shows(row, column, time),
                        bright * percent / 100);
                }
            }
        }
    }

    private static void frame() {
        Due.sentence("A frame that is taken at a time s has the pixels of each row r as they are at the time s + r * delay "
            + "(things move on as they do at s), but for rows that are blinded, which have none.");
        RowVotes x = Cameras.of(6, 12, 2);
        x.thing(0, 5, -300, 60, 250, 180);
        x.blind(4, 1);
        Cameras.lamp(x, 6, 2, 40);
        x.pass(5);
        x.shoot();
        for (int row = 0; row < 6; row++) {
            for (int column = 0; column < 12; column++) {
                Due.is("pixel(0, " + row + ", " + column + ")", x.pixel(0, row, column),
                    row == 4 ? NONE : x.shows(row, column, 5 + 2 * row));
            }
        }
        x.turn(0, -60);
        Due.is("a pixel stays when its thing is turned", x.pixel(0, 5, 6), 180);
        Due.is("what is shown then does not", x.shows(5, 6, 15), 20);
    }

    private static void edge() {
        Due.sentence("In a row that was not blinded, a column c (1 or more) is an edge if its pixel and that of the column "
            + "c - 1 differ by the threshold (as it is now) or more.");
        RowVotes x = Cameras.of(2, 8, 0);
        x.thing(0, 1, 200, 0, 100, 60);
        x.thing(0, 1, 300, 0, 300, 99);
        x.shoot();
        x.blind(1, 1);
        x.shoot();
        // 20 20 60 99 99 99 20 20
        Due.is("by 40 or more", x.edges(0, 0), 4 + 64);
        x.set(3, 39);
        Due.is("by 39 or more", x.edges(0, 0), 4 + 8 + 64);
        x.set(3, 41);
        Due.is("by 41 or more", x.edges(0, 0), 64);
        x.set(3, 79);
        Due.is("by 79 or more", x.edges(0, 0), 64);
        x.set(3, 80);
        Due.is("by 80 or more", x.edges(0, 0), 0);
        Due.is("a row that was blinded", x.edges(1, 1), NONE);
        Due.is("it was not blinded ahead of it", x.edges(0, 1), 0);
    }

    private static void voteOfARow() {
        Due.sentence("a row votes for the shift k, from -8 to 8, for which most edges c of the first one have an edge c + k "
            + "of the second one; of several it is the one with the least size, of these the negative one.");
        RowVotes x = new RowVotes();
        x.set(1, 16);
        x.set(2, 0);
        x.thing(0, 0, 300, 20, 200, 200);
        x.thing(0, 0, 900, 30, 1600, 200);
        x.thing(1, 1, 600, -20, 400, 200);
        x.shoot();
        x.pass(10);
        x.shoot();
        Due.is("edges ahead", x.edges(0, 0), (1 << 3) + (1 << 5) + (1 << 9));
        Due.is("edges then", x.edges(1, 0), (1 << 5) + (1 << 7) + (1 << 12));
        Due.is("two edges of three", x.vote(0, 1, 0), 2);
        Due.is("the other way", x.vote(1, 0, 0), -2);
        Due.is("edges of row 1 ahead", x.edges(0, 1), (1 << 6) + (1 << 10));
        Due.is("edges of row 1 then", x.edges(1, 1), (1 << 4) + (1 << 8));
        Due.is("both edges by -2, one of them by 2", x.vote(0, 1, 1), -2);
        Due.is("a frame behind is the first one", x.vote(1, 0, 1), 2);
        Due.is("a row without edges", x.vote(0, 1, 2), NONE);
    }

    private static void voteLost() {
        Due.sentence("It has no vote if it was blinded in one of them, or if for no shift there is any such edge.");
        RowVotes x = Cameras.edges(4, new int[] {0, 0, 2, 10}, new int[] {1, 1, 2, 11}, new int[] {2, 2, 11, 3});
        Due.is("by 8", x.vote(0, 1, 0), 8);
        Due.is("by 9", x.vote(0, 1, 1), NONE);
        Due.is("by -8", x.vote(0, 1, 2), -8);
        Due.is("no edges", x.vote(0, 1, 3), NONE);
        x.blind(0, 1);
        x.shoot();
        Due.is("blinded in the second one", x.vote(0, 2, 0), NONE);
        Due.is("blinded in the first one", x.vote(2, 0, 0), NONE);
        Due.is("blinded in none of them", x.vote(0, 1, 0), 8);
    }

    private static void told() {
        Due.sentence("The shift that most rows vote for is told; if there is no vote, or several shifts have the most "
            + "votes, none is told.");
        int[] two = {0, 1, 5, 7};
        int[] one = {2, 2, 5, 6};
        int[] three = {3, 3, 5, 8};
        int[] back = {4, 4, 5, 4};
        for (int rows = 1; rows <= 5; rows++) {
            Due.is("one or two votes of " + rows, Cameras.edges(rows, two, one, three, back).shift(0, 1), 2);
        }
        RowVotes tie = Cameras.edges(6, new int[] {0, 1, 5, 7}, new int[] {2, 3, 5, 4}, new int[] {4, 4, 5, 6});
        Due.is("two for 2, two for -1, one for 1", tie.shift(0, 1), NONE);
        Due.is("no vote", Cameras.edges(3).shift(0, 1), NONE);
    }

    private static void slants() {
        Due.sentence("Of one frame, each row and the row below it vote for a slant likewise, the row above as the first one; "
            + "the slant that most of them vote for is told, as above.");
        for (int speed = -80; speed <= 80; speed += 20) {
            RowVotes x = Cameras.of(5, 16, 5);
            Cameras.edge(x, 0, 4, 6, speed);
            x.shoot();
            Due.is("slant at the speed " + speed, x.slant(0), speed * 5 / 100);
        }
        RowVotes still = Cameras.of(4, 16, 5);
        Cameras.edge(still, 0, 3, 6, 0);
        still.shoot();
        Due.is("slant of a thing at rest", still.slant(0), 0);
        RowVotes single = Cameras.of(1, 16, 5);
        Cameras.edge(single, 0, 0, 6, 20);
        single.shoot();
        Due.is("one row has none below it", single.slant(0), NONE);
    }

    private static void judged() {
        Due.sentence("A row agrees and dissents as it is judged: by two frames of which a shift is told, each row that votes "
            + "for it agrees once more, each other row with a vote dissents once more.");
        RowVotes x = Cameras.edges(6, new int[] {0, 2, 4, 6}, new int[] {3, 3, 4, 5});
        Due.is("judge", x.judge(0, 1), 4);
        Due.is("judge the other way", x.judge(1, 0), 4);
        for (int row = 0; row < 10; row++) {
            Due.is("row " + row + " has agreed", x.rowOf(row, 1), row <= 2 ? 2 : 0);
            Due.is("row " + row + " has dissented", x.rowOf(row, 2), row == 3 ? 2 : 0);
        }
        RowVotes tie = Cameras.edges(2, new int[] {0, 0, 4, 6}, new int[] {1, 1, 4, 5});
        Due.is("judge by a tie", tie.judge(0, 1), NONE);
        Due.is("nothing is judged", tie.rowOf(0, 1) + tie.rowOf(0, 2) + tie.rowOf(1, 1) + tie.rowOf(1, 2), 0);
    }

    private static void weight() {
        Due.sentence("The weight of a row is 1, and besides how often it has agreed minus how often it has dissented, if that "
            + "is above 0 (so it is 1 at least).");
        RowVotes x = Cameras.edges(3, new int[] {0, 1, 4, 6}, new int[] {2, 2, 4, 5});
        for (int judged = 0; judged < 5; judged++) {
            Due.is("row 0, which agrees", x.rowOf(0, 3), 1 + judged);
            Due.is("row 2, which dissents", x.rowOf(2, 3), 1);
            Due.is("row 9, which is not there", x.rowOf(9, 3), 1);
            x.judge(0, 1);
        }
        // the rows 0 and 1 see nothing any more, so row 2 is agreed with
        x.blind(0, 1);
        x.blind(1, 1);
        x.shoot();
        for (int judged = 1; judged <= 7; judged++) {
            Due.is("judge row 2 alone", x.judge(0, 2), 1);
            Due.is("5 dissents are made up for first", x.rowOf(2, 3), 1 + Math.max(0, judged - 5));
        }
    }

    private static void motion() {
        Due.sentence("A motion fits a thing if, with another position (at the time 0) and another speed in place of its own, "
            + "for all times, and all else as it is now (all other things, the lamp, the ground), each row that was not "
            + "blinded of each kept frame would have the pixels that it has.");
        RowVotes x = Cameras.of(1, 16, 0);
        x.thing(0, 0, 500, 20, 100, 200);
        x.pass(5);
        x.shoot();
        // column 6 at the time 5: 600 = position + 5 * speed, or from 551 to 650
        int[] expected = {0, 0, 0, 0, 0};
        fittingOneColumn(expected, 5, 6, -1, 0);
        motionsAre(x, expected);
        x.pass(10);
        x.shoot();
        fittingOneColumn(expected, 5, 6, 15, 8);
        motionsAre(x, expected);
        x.thing(0, 0, 600, 0, 100, 99);
        Due.is("another thing covers it now", x.motions(0, 0), 0);
        x.undo();
        motionsAre(x, expected);
        x.turn(0, 100);
        motionsAre(x, expected);
    }

    private static void fittingOneColumn(int[] all, int time, int column, int later, int columnThen) {
        all[0] = 0;
        for (int position = -1000; position <= 2400; position += 100) {
            for (int speed = -100; speed <= 100; speed += 10) {
                if (isAt(position + speed * time, column) && (later < 0 || isAt(position + speed * later, columnThen))) {
                    if (all[0] == 0) {
                        all[1] = position;
                        all[2] = speed;
                    }
                    all[0]++;
                    all[3] = position;
                    all[4] = speed;
                }
            }
        }
    }

    /** Whether what is as wide as a column and stands there covers the middle of this column. */
    private static boolean isAt(int position, int column) {
        return position <= 100 * column + 50 && position + 100 > 100 * column + 50;
    }

    private static void motionsAre(RowVotes x, int[] expected) {
        for (int what = 0; what < expected.length; what++) {
            Due.is("motions(0, " + what + ")", x.motions(0, what), expected[what]);
        }
    }

    private static void period() {
        Due.sentence("A period of the lamp fits likewise, with all else as it is now.");
        RowVotes x = Cameras.of(1, 4, 0);
        Cameras.lamp(x, 4, 2, 50);
        Due.is("without frames all of them", x.periods(), (1 << 21) - 1);
        x.shoot();
        Due.is("dark at 0: all but 0, which is never dark", x.periods(), (1 << 21) - 2);
        x.pass(2);
        x.shoot();
        Due.is("lit at 2: 3 to 20", x.periods(), (1 << 21) - 8);
        x.pass(2);
        x.shoot();
        Due.is("dark at 4: 3 and 4", x.periods(), 8 + 16);
        x.pass(1);
        x.shoot();
        Due.is("dark at 5: 4", x.periods(), 16);
        x.set(5, 9);
        Due.is("whatever the period is now", x.periods(), 16);
        x.set(4, 30);
        Due.is("with another ground none", x.periods(), 0);
    }

    private static void orders() {
        Due.sentence("There is a text of at most 80 characters, initially empty: orders, each followed by \";\": \"t\" six "
            + "numbers, each but the first behind a \",\" (a thing: top, bottom, position, speed, width, brightness), \"g\" "
            + "ticks (they go by), \"s\" (a frame is taken), \"b\" a row (it is blinded), \"u\" a row (it is blinded no more);");
        RowVotes x = new RowVotes();
        Due.is("initially empty", x.count(7), 0);
        Cameras.write(x, "t1,4,-300,25,450,222;g12;b0;b3;s;u3;g5;s;");
        Due.is("its length", x.count(7), 41);
        Due.is("without a fault", x.fault(0), NONE);
        Due.is("play", x.play(), 8);
        int[] numbers = {1, 4, -300, 25, 450, 222};
        for (int what = 0; what < numbers.length; what++) {
            Due.is("thingOf(0, " + what + ")", x.thingOf(0, what), numbers[what]);
        }
        Due.is("the time", x.count(2), 17);
        Due.is("frames", x.count(1), 2);
        Due.is("the first one was taken at", x.frameOf(0, 0), 12);
        Due.is("the second one at", x.frameOf(1, 0), 17);
        Due.is("blinded in the first one", x.frameOf(0, 1), 1 + 8);
        Due.is("blinded in the second one", x.frameOf(1, 1), 1);
    }

    private static void minusAndZero() {
        Due.sentence("numbers of 1 to 5 digits, 0 ahead allowed, \"-\" ahead of them allowed.");
        RowVotes x = new RowVotes();
        Cameras.write(x, "b-0;b00001;b-00002;");
        Due.is("\"-\" ahead of 0 is of the form", x.fault(1), 2);
        Due.is("-2 is the order that is not possible", x.fault(0), 11);
        Cameras.write(x, "b-0;b00001;t-00,-0,-00001,-20,00050,-0;g00003;");
        Due.is("no fault", x.fault(1), NONE);
        Due.is("play", x.play(), 4);
        Due.is("row 0 is blinded", x.rowOf(0, 0), 1);
        Due.is("row 1 is blinded", x.rowOf(1, 0), 1);
        Due.is("the position", x.thingOf(0, 2), -1);
        Due.is("the speed", x.thingOf(0, 3), -20);
        Due.is("the brightness", x.thingOf(0, 5), 0);
        Due.is("the time", x.count(2), 3);
        String[] faulty = {"g-0;", "g0;", "g000003;", "g--3;", "g3-;", "g-;", "g+3;", "g 3;"};
        int[] reasons = {2, 2, 1, 1, 1, 1, 1, 1};
        int[] causes = {0, 0, 6, 2, 2, 2, 1, 1};
        for (int i = 0; i < faulty.length; i++) {
            Cameras.write(x, faulty[i]);
            Due.is("the reason of \"" + faulty[i] + "\"", x.fault(1), reasons[i]);
            Due.is("the cause of \"" + faulty[i] + "\"", x.fault(2), causes[i]);
        }
    }

    private static void fault() {
        Due.sentence("The fault of the text is the position, from 0, of the first character of the first order that is not "
            + "possible; its reason is 1 if it is not of this form, its \";\" included, 2 if one of its numbers is out of its "
            + "range, and 3 if it is not possible otherwise (by what thing, pass and blind tell), when those ahead of it are "
            + "done.");
        faultIs("s;g1;x1;g0;", 5, 1, 0);
        faultIs("s;g1;g0;x1;", 5, 2, 0);
        faultIs("s;u1;g0;x1;", 2, 3, NONE);
        faultIs("b1;u1;b1;u1;u1;", 12, 3, NONE);
        faultIs("s;g1;b5", 5, 1, 2);
        faultIs("s;g1;b10;b", 5, 2, 0);
        faultIs("g200;g200;b7;b7;", 13, 3, NONE);
    }

    private static void cause() {
        Due.sentence("The cause of a fault with the reason 2 is which of the numbers of the order it is, from 0, the first one "
            + "that is out of its range (a bottom row that is above the top one is out of it); of a fault with the reason 1 it "
            + "is at which character of the order it breaks off (0 for its letter; of an order that the text ends too early it "
            + "is its length), the \";\" that is missing included.");
        faultIs("t0,9,0,0,50,256;", 0, 2, 5);
        faultIs("t0,9,0,0,49,256;", 0, 2, 4);
        faultIs("t5,4,0,0,49,256;", 0, 2, 1);
        faultIs("t10,4,0,0,49,256;", 0, 2, 0);
        faultIs("?", 0, 1, 0);
        faultIs("s;T0,9,0,0,50,256;", 2, 1, 0);
        faultIs("s;t0,9,0,0,50;", 2, 1, 11);
        faultIs("s;t0,9,0,0,50,", 2, 1, 12);
        faultIs("s;t0,9,0,0,50,25", 2, 1, 14);
        faultIs("s;t0,9,0,0,50,25,", 2, 1, 14);
        faultIs("s;s", 2, 1, 1);
        faultIs("s;;s;", 2, 1, 0);
    }

    private static void faultIs(String text, int place, int reason, int cause) {
        RowVotes x = new RowVotes();
        Cameras.write(x, text);
        Due.is("place of the fault of \"" + text + "\"", x.fault(0), place);
        Due.is("reason of the fault of \"" + text + "\"", x.fault(1), reason);
        Due.is("cause of the fault of \"" + text + "\"", x.fault(2), cause);
        Due.is("play \"" + text + "\"", x.play(), IMPOSSIBLE);
        Due.is("nothing of \"" + text + "\" is done", x.count(4) + x.count(2) + x.count(0) + x.count(3), 0);
    }

    private static void changes() {
        Due.sentence("The changes are the calls of set, thing, turn, blind, shoot, forget, pass, judge and play that return no "
            + "error.");
        RowVotes x = Cameras.edges(2, new int[] {0, 1, 3, 5});
        for (int i = 0; i < 4; i++) {
            x.pass(1);
        }
        for (int i = 0; i < 4; i++) {
            x.undo();
        }
        Due.is("the history is empty", x.count(6), 0);
        asksOf(x);
        Due.is("calls that ask record nothing", x.count(6), 0);
        int[] answers = {x.set(3, 30), x.thing(0, 0, 0, 0, 100, 100), x.turn(0, 5), x.blind(3, 1)};
        Due.is("set, thing, turn and blind are changes", x.count(6), answers.length);
        for (int i = 0; i < 4; i++) {
            x.undo();
        }
        int[] others = {x.shoot(), x.forget(0), x.pass(1), x.play()};
        Due.is("shoot, forget, pass and play are changes", x.count(6), others.length);
        RowVotes judging = Cameras.edges(2, new int[] {0, 1, 3, 5});
        for (int i = 0; i < 3; i++) {
            judging.judge(0, 1);
        }
        for (int left = 3; left > 0; left--) {
            Due.is("a judgement is undone", judging.undo(), left);
            Due.is("so often it has agreed then", judging.rowOf(0, 1), left - 1);
        }
    }

    private static void asksOf(RowVotes x) {
        int sum = x.thingOf(0, 0) + x.shows(0, 0, 0) + x.frameOf(0, 0) + x.pixel(0, 0, 0) + x.edges(0, 0) + x.vote(0, 1, 0)
            + x.shift(0, 1) + x.voters(0, 1, 0) + x.dissent(0, 1) + x.speed(0, 1) + x.slant(0) + x.slantSpeed(0)
            + x.weighed(0, 1) + x.rowOf(0, 0) + x.bestWait(0, 0) + x.motions(0, 0) + x.periods() + x.fitting(0) + x.count(0)
            + x.type('s') + x.fault(0) + x.clearText() + x.type(';') + x.clearText() + x.undo();
        Due.is("they answer", sum == 0 ? 0 : 1, 1);
    }

    private static void sameAgain() {
        Due.sentence("The changes are the calls of set, thing, turn, blind, shoot, forget, pass, judge and play that return no "
            + "error.");
        RowVotes x = new RowVotes();
        x.set(3, 40);
        Due.is("set to what it is", x.count(6), 1);
        x.thing(0, 5, 0, 7, 100, 200);
        x.turn(0, 7);
        Due.is("turned to the speed that it has", x.count(6), 3);
        x.play();
        Due.is("play without orders", x.count(6), 4);
        Due.is("undo of play", x.undo(), 3);
        Due.is("undo of turn", x.undo(), 2);
        Due.is("the thing is there", x.thingOf(0, 3), 7);
        Due.is("undo of thing", x.undo(), 1);
        Due.is("undo of set", x.undo(), 0);
        Due.is("nothing is left", x.undo(), IMPOSSIBLE);
    }

    private static void history() {
        Due.sentence("A history of at most 4 states is kept: each change records everything before it but the text, and if "
            + "there are 5 states then, the oldest one is dropped.");
        RowVotes x = Cameras.edges(2, new int[] {0, 1, 3, 5});
        for (int taken = 3; taken <= 8; taken++) {
            x.shoot();
            Due.is("states", x.count(6), 4);
        }
        Cameras.write(x, "s;");
        Due.is("frames taken", x.count(4), 8);
        for (int left = 3; left >= 0; left--) {
            Due.is("undo", x.undo(), left);
            Due.is("frames taken then", x.count(4), 4 + left);
            Due.is("the text stays", x.count(7), 2);
        }
        Due.is("no more of them", x.undo(), IMPOSSIBLE);
        Due.is("four frames are left", x.count(1), 4);
        Due.is("a state of everything", x.shift(0, 1), 2);
    }

    private static void errors() {
        Due.sentence("If several errors apply to a call, INVALID_ARGUMENT is returned rather than NOT_POSSIBLE, NOT_POSSIBLE "
            + "rather than LIMIT_REACHED, and LIMIT_REACHED rather than NOT_FOUND. A call that returns an error changes "
            + "nothing. If there is no thing, row, column or frame with a certain number, this is INVALID_ARGUMENT.");
        RowVotes x = new RowVotes();
        x.shoot();
        Due.is("set: frames are kept, and 11 rows", x.set(0, 11), INVALID);
        Due.is("set: frames are kept", x.set(0, 10), IMPOSSIBLE);
        x.blind(2, 1);
        Due.is("blind: it is so, and 2 is neither 1 nor 0", x.blind(2, 2), INVALID);
        Due.is("blind: it is so", x.blind(2, 1), IMPOSSIBLE);
        x.shoot();
        Due.is("speed: the same time, and no shift", x.speed(0, 1), IMPOSSIBLE);
        Due.is("speed: no such frame", x.speed(0, 2), INVALID);
        x.thing(0, 0, 0, 0, 100, 1);
        x.thing(0, 0, 0, 0, 100, 2);
        x.thing(0, 0, 0, 0, 100, 3);
        x.thing(0, 0, 0, 0, 100, 4);
        Due.is("thing: there are 4, and it is too wide", x.thing(0, 0, 0, 0, 1601, 5), INVALID);
        Due.is("thing: there are 4", x.thing(0, 0, 0, 0, 1600, 5), LIMIT);
        Due.is("no thing 4", x.thingOf(4, 0), INVALID);
        Due.is("no row 6", x.shows(6, 0, 0), INVALID);
        Due.is("no column 12", x.shows(0, 12, 0), INVALID);
        Due.is("no frame 2", x.frameOf(2, 0), INVALID);
        Due.is("nothing is changed: things", x.count(0), 4);
        Due.is("nothing is changed: frames", x.count(1), 2);
        Due.is("nothing is changed: rows", x.count(10), 6);
        Due.is("nothing is changed: blinded rows", x.count(3), 1);
    }

    private static void constants() {
        Due.sentence("`NOT_POSSIBLE = -10000002`: The call is not possible in the present state.");
        Due.is("its value", RowVotes.NOT_POSSIBLE, -10000002);
        Due.is("undo at first", new RowVotes().undo(), -10000002);
        Due.is("blind no more what sees", new RowVotes().blind(0, 0), -10000002);
        Due.sentence("`LIMIT_REACHED = -10000003`: A fixed limit has been reached.");
        RowVotes late = new RowVotes();
        Cameras.passTo(late, 20000);
        Due.is("its value", RowVotes.LIMIT_REACHED, -10000003);
        Due.is("beyond the last time", late.pass(1), -10000003);
        Due.is("the last time stays", late.count(2), 20000);
        Due.sentence("`NOT_FOUND = -10000004`: There is no such value.");
        Due.is("its value", RowVotes.NOT_FOUND, -10000004);
        Due.is("no fault", new RowVotes().fault(0), -10000004);
        Due.is("no reason", new RowVotes().fault(1), -10000004);
        Due.sentence("`INVALID_ARGUMENT = -10000001`: An argument is out of its range, or there is no such thing, row, column "
            + "or frame.");
        Due.is("its value", RowVotes.INVALID_ARGUMENT, -10000001);
        Due.is("no such frame", new RowVotes().slant(0), -10000001);
        Due.is("no such number", new RowVotes().count(8), -10000001);
    }
}
