/** Boundary cases of things, blinded rows and what columns show, promises 3 to 7: each sentence has its own test. */
public final class BoundaryThingsTest {
    public static void main(String[] args) {
        rangeOf("- `top`: 0 to 9", 0, 0, 9, new int[] {0, 9, 0, 0, 100, 200});
        rangeOf("- `position`: at the time 0, -20000 to 20000", 2, -20000, 20000, new int[] {0, 9, 0, 0, 100, 200});
        rangeOf("- `speed`: -200 to 200", 3, -200, 200, new int[] {0, 9, 0, 0, 100, 200});
        rangeOf("- `width`: 50 to 1600", 4, 50, 1600, new int[] {0, 9, 0, 0, 100, 200});
        rangeOf("- `brightness`: 0 to 255", 5, 0, 255, new int[] {0, 9, 0, 0, 100, 200});
        bottomRow();
        fourThings();
        fourThingsAndErrors();
        numbersOfThings();
        positionAtATime();
        turnedFromWhereItIs();
        turnedBeyondTheRange();
        turnedOften();
        speedsOfTurn();
        whatOfAThing();
        rowsThatAreBlinded();
        blindOrNot();
        blindedSoAlready();
        howManyAreBlinded();
        leftSide();
        rightSide();
        sidesInAllColumns();
        rowsOfAThing();
        greatestNumber();
        timesShown();
        blindedOrNotShown();
        Due.end();
    }

    private static int add(RowVotes x, int[] n) {
        return x.thing(n[0], n[1], n[2], n[3], n[4], n[5]);
    }

    private static void rangeOf(String sentence, int which, int least, int most, int[] numbers) {
        Due.sentence(sentence);
        int[] all = {least - 1, least, least + 1, most - 1, most, most + 1, Integer.MIN_VALUE, Integer.MAX_VALUE};
        for (int value : all) {
            RowVotes x = new RowVotes();
            boolean within = value >= least && value <= most;
            numbers[which] = value;
            Due.is("the number " + which + " is " + value, add(x, numbers), within ? 0 : Cameras.INVALID);
            Due.is("things then", x.count(0), within ? 1 : 0);
            Due.is("states then", x.count(6), within ? 1 : 0);
            Due.is("what it is", x.thingOf(0, which), within ? value : Cameras.INVALID);
        }
    }

    private static void bottomRow() {
        Due.sentence("- `bottom`: top to 9");
        for (int top = 0; top <= 9; top++) {
            int[] bottoms = {top - 1, top, top + 1, 8, 9, 10, -1, Integer.MIN_VALUE, Integer.MAX_VALUE};
            for (int bottom : bottoms) {
                RowVotes x = new RowVotes();
                boolean within = bottom >= top && bottom <= 9;
                String call = "the rows " + top + " to " + bottom;
                Due.is(call, x.thing(top, bottom, 0, 0, 100, 200), within ? 0 : Cameras.INVALID);
                Due.is(call + ", the bottom row", x.thingOf(0, 1), within ? bottom : Cameras.INVALID);
            }
        }
    }

    private static void fourThings() {
        Due.sentence("There are at most 4 things, numbered from 0:");
        RowVotes x = new RowVotes();
        for (int i = 0; i < 4; i++) {
            Due.is("thing " + i, x.thing(i, 9, 100 * i, 0, 100, 200 + i), i);
            Due.is("things then", x.count(0), i + 1);
        }
        Due.is("a fifth one", x.thing(0, 9, 0, 0, 100, 200), Cameras.LIMIT);
        Due.is("a sixth one", x.thing(9, 9, 0, 0, 100, 200), Cameras.LIMIT);
        Due.is("things then", x.count(0), 4);
        for (int i = 0; i < 4; i++) {
            Due.is("the top row of " + i, x.thingOf(i, 0), i);
            Due.is("the brightness of " + i, x.thingOf(i, 5), 200 + i);
        }
        Due.is("undo", x.undo(), 3);
        Due.is("three things", x.count(0), 3);
        Due.is("a fourth one again", x.thing(5, 5, 0, 0, 100, 99), 3);
        Due.is("it is the new one", x.thingOf(3, 5), 99);
        Due.is("and a fifth one", x.thing(0, 9, 0, 0, 100, 200), Cameras.LIMIT);
    }

    private static void fourThingsAndErrors() {
        Due.sentence("Returns its number; INVALID_ARGUMENT if an argument is out of range; LIMIT_REACHED if there are 4.");
        RowVotes x = new RowVotes();
        int[][] wrong = {{-1, 9, 0, 0, 100, 200}, {10, 10, 0, 0, 100, 200}, {1, 0, 0, 0, 100, 200}, {0, 10, 0, 0, 100, 200},
            {0, 9, -20001, 0, 100, 200}, {0, 9, 20001, 0, 100, 200}, {0, 9, 0, -201, 100, 200}, {0, 9, 0, 201, 100, 200},
            {0, 9, 0, 0, 49, 200}, {0, 9, 0, 0, 1601, 200}, {0, 9, 0, 0, 100, -1}, {0, 9, 0, 0, 100, 256}};
        for (int things = 0; things <= 4; things++) {
            for (int i = 0; i < wrong.length; i++) {
                Due.is("wrong thing " + i + " behind " + things, add(x, wrong[i]), Cameras.INVALID);
            }
            Due.is("a thing behind " + things, x.thing(0, 9, 0, 0, 100, 200), things < 4 ? things : Cameras.LIMIT);
        }
    }

    private static void numbersOfThings() {
        Due.sentence("- `thing`: number of the thing");
        RowVotes x = new RowVotes();
        for (int things = 0; things <= 4; things++) {
            for (int number : new int[] {-1, things, things + 1, 4, 5, Integer.MIN_VALUE, Integer.MAX_VALUE}) {
                if (number < 0 || number >= things) {
                    Due.is("turn " + number + " of " + things, x.turn(number, 0), Cameras.INVALID);
                    Due.is("thingOf " + number + " of " + things, x.thingOf(number, 0), Cameras.INVALID);
                    Due.is("motions " + number + " of " + things, x.motions(number, 0), Cameras.INVALID);
                }
            }
            for (int number = 0; number < things; number++) {
                Due.is("turn " + number + " of " + things, x.turn(number, 10 + number), 10 + number);
                Due.is("thingOf " + number + " of " + things, x.thingOf(number, 0), number);
                Due.is("motions " + number + " of " + things, x.motions(number, 0), 735);
            }
            x.thing(things, 9, 0, 10 + things, 100, 200);
        }
    }

    private static void positionAtATime() {
        Due.sentence("Its position at a time t is the position + its speed * t.");
        RowVotes x = new RowVotes();
        x.thing(0, 9, -20000, -200, 100, 200);
        x.thing(0, 9, 20000, 200, 100, 200);
        x.thing(0, 9, 77, 0, 100, 200);
        x.thing(0, 9, -20000, 1, 100, 200);
        for (int time : new int[] {0, 1, 2, 19999, 20000}) {
            Cameras.passTo(x, time);
            Due.is("to the left, at " + time, x.thingOf(0, 6), -20000 - 200 * time);
            Due.is("to the right, at " + time, x.thingOf(1, 6), 20000 + 200 * time);
            Due.is("at rest, at " + time, x.thingOf(2, 6), 77);
            Due.is("slowly, at " + time, x.thingOf(3, 6), -20000 + time);
            Due.is("the position at the time 0, at " + time, x.thingOf(0, 2), -20000);
        }
    }

    private static void turnedFromWhereItIs() {
        Due.sentence("If a thing is turned, it goes on from the position that it has at the present time, with another speed "
            + "(its position is told anew, so that this is so).");
        for (int time : new int[] {0, 1, 2, 199, 200}) {
            RowVotes x = new RowVotes();
            x.thing(0, 9, 1000, 50, 100, 200);
            x.thing(0, 9, 1000, 50, 100, 200);
            Cameras.passTo(x, time);
            Due.is("turn at " + time, x.turn(0, -30), 50);
            Due.is("where it is, at " + time, x.thingOf(0, 6), 1000 + 50 * time);
            Due.is("its position told anew, at " + time, x.thingOf(0, 2), 1000 + 80 * time);
            Due.is("its speed, at " + time, x.thingOf(0, 3), -30);
            Due.is("the position of the other one", x.thingOf(1, 2), 1000);
            Due.is("the speed of the other one", x.thingOf(1, 3), 50);
            x.pass(1);
            Due.is("a tick behind " + time, x.thingOf(0, 6), 1000 + 50 * time - 30);
            Due.is("the width", x.thingOf(0, 4), 100);
            Due.is("the brightness", x.thingOf(0, 5), 200);
        }
    }

    private static void turnedBeyondTheRange() {
        Due.sentence("(its position is told anew, so that this is so)");
        RowVotes x = new RowVotes();
        x.thing(0, 9, 20000, 200, 100, 200);
        x.thing(0, 9, -20000, -200, 100, 200);
        Cameras.passTo(x, 20000);
        Due.is("turn at the end of time", x.turn(0, -200), 200);
        Due.is("its position told anew", x.thingOf(0, 2), 8020000);
        Due.is("where it is", x.thingOf(0, 6), 4020000);
        Due.is("turn the other one", x.turn(1, 200), -200);
        Due.is("its position told anew", x.thingOf(1, 2), -8020000);
        Due.is("where it is", x.thingOf(1, 6), -4020000);
        Due.is("turned to the speed it has", x.turn(1, 200), 200);
        Due.is("its position is the same", x.thingOf(1, 2), -8020000);
        Due.is("turned to rest", x.turn(1, 0), 200);
        Due.is("its position is where it is", x.thingOf(1, 2), -4020000);
    }

    /** However often it is turned at one time, it stays where it is at this time. */
    private static void turnedOften() {
        Due.sentence("it goes on from the position that it has at the present time, with another speed");
        RowVotes x = new RowVotes();
        x.thing(0, 9, 300, 20, 100, 200);
        x.pass(10);
        for (int speed : new int[] {-200, 200, 0, 0, 1, -1, 20}) {
            x.turn(0, speed);
            Due.is("turned to " + speed, x.thingOf(0, 6), 500);
            Due.is("told anew with " + speed, x.thingOf(0, 2), 500 - 10 * speed);
        }
        Due.is("turned back", x.thingOf(0, 2), 300);
        Due.is("what it shows at the time 0", x.shows(0, 3, 0), 200);
        x.turn(0, 0);
        Due.is("at rest: what it shows at the time 0", x.shows(0, 5, 0), 200);
        Due.is("at rest: where it was at the time 0", x.shows(0, 3, 0), 20);
    }

    private static void speedsOfTurn() {
        Due.sentence("Returns its speed before; INVALID_ARGUMENT if an argument is out of range.");
        RowVotes x = new RowVotes();
        x.thing(0, 9, 0, 7, 100, 200);
        int before = 7;
        for (int speed : new int[] {-201, 201, Integer.MIN_VALUE, Integer.MAX_VALUE}) {
            Due.is("turn(0, " + speed + ")", x.turn(0, speed), Cameras.INVALID);
            Due.is("its speed", x.thingOf(0, 3), 7);
        }
        for (int speed : new int[] {-200, -199, -1, 0, 1, 199, 200}) {
            Due.is("turn(0, " + speed + ")", x.turn(0, speed), before);
            Due.is("its speed", x.thingOf(0, 3), speed);
            before = speed;
        }
        Due.is("turn(0, 201)", x.turn(0, 201), Cameras.INVALID);
        Due.is("both are wrong", x.turn(1, 201), Cameras.INVALID);
        Due.is("its speed", x.thingOf(0, 3), 200);
    }

    private static void whatOfAThing() {
        Due.sentence("- `what`: 0: its top row; 1: its bottom row; 2: its position (at the time 0); 3: its speed; "
            + "4: its width; 5: its brightness; 6: its position at the present time");
        RowVotes x = new RowVotes();
        x.thing(1, 8, -300, -7, 60, 5);
        x.pass(100);
        int[] due = {1, 8, -300, -7, 60, 5, -1000};
        for (int what = 0; what <= 6; what++) {
            Due.is("thingOf(0, " + what + ")", x.thingOf(0, what), due[what]);
        }
        for (int what : new int[] {-1, 7, 8, Integer.MIN_VALUE, Integer.MAX_VALUE}) {
            Due.is("thingOf(0, " + what + ")", x.thingOf(0, what), Cameras.INVALID);
        }
    }

    private static void rowsThatAreBlinded() {
        Due.sentence("- `row`: 0 to 9\n- `is`: 1 or 0");
        RowVotes x = new RowVotes();
        x.set(0, 1);
        for (int row : new int[] {-1, 10, 11, 32, 42, -32, Integer.MIN_VALUE, Integer.MAX_VALUE}) {
            Due.is("blind(" + row + ", 1)", x.blind(row, 1), Cameras.INVALID);
            Due.is("blind(" + row + ", 0)", x.blind(row, 0), Cameras.INVALID);
            Due.is("rowOf(" + row + ", 0)", x.rowOf(row, 0), Cameras.INVALID);
        }
        Due.is("blind(0, 1)", x.blind(0, 1), 1);
        Due.is("blind(9, 1)", x.blind(9, 1), 2);
        Due.is("blind(1, 1)", x.blind(1, 1), 3);
        Due.is("blind(8, 1)", x.blind(8, 1), 4);
    }

    private static void blindOrNot() {
        Due.sentence("`is`: 1 or 0");
        RowVotes x = new RowVotes();
        x.blind(3, 1);
        for (int is : new int[] {-1, 2, 3, Integer.MIN_VALUE, Integer.MAX_VALUE}) {
            Due.is("blind(3, " + is + ")", x.blind(3, is), Cameras.INVALID);
            Due.is("blind(4, " + is + ")", x.blind(4, is), Cameras.INVALID);
        }
        Due.is("row 3", x.rowOf(3, 0), 1);
        Due.is("row 4", x.rowOf(4, 0), 0);
        Due.is("blind(3, 0)", x.blind(3, 0), 0);
        Due.is("blind(4, 1)", x.blind(4, 1), 1);
    }

    private static void blindedSoAlready() {
        Due.sentence("NOT_POSSIBLE if it is so already.");
        for (int row = 0; row <= 9; row++) {
            RowVotes x = new RowVotes();
            Due.is("not blinded, no more, row " + row, x.blind(row, 0), Cameras.IMPOSSIBLE);
            Due.is("blinded, row " + row, x.blind(row, 1), 1);
            Due.is("blinded again, row " + row, x.blind(row, 1), Cameras.IMPOSSIBLE);
            Due.is("it is, row " + row, x.rowOf(row, 0), 1);
            Due.is("no more, row " + row, x.blind(row, 0), 0);
            Due.is("no more again, row " + row, x.blind(row, 0), Cameras.IMPOSSIBLE);
            Due.is("it is not, row " + row, x.rowOf(row, 0), 0);
            Due.is("changes", x.count(6), 2);
        }
    }

    private static void howManyAreBlinded() {
        Due.sentence("Returns how many rows are blinded then, of all from 0 to 9;");
        RowVotes x = new RowVotes();
        for (int row = 0; row <= 9; row++) {
            Due.is("row " + row, x.blind(row, 1), row + 1);
            Due.is("count(3)", x.count(3), row + 1);
        }
        for (int row = 0; row <= 9; row++) {
            Due.is("row " + row + " no more", x.blind(row, 0), 9 - row);
            Due.is("count(3)", x.count(3), 9 - row);
        }
    }

    /** A thing in row 0 that shows something in the column 0, or not. */
    private static int columnZero(int position, int width) {
        RowVotes x = new RowVotes();
        x.thing(0, 0, position, 0, width, 200);
        return x.shows(0, 0, 0);
    }

    private static void leftSide() {
        Due.sentence("its position at t is at most 100 * c + 50");
        Due.is("at 49", columnZero(49, 100), 200);
        Due.is("at 50", columnZero(50, 100), 200);
        Due.is("at 51", columnZero(51, 100), 20);
        Due.is("at 50, of the least width", columnZero(50, 50), 200);
        RowVotes x = new RowVotes();
        x.thing(0, 0, 48, 1, 100, 200);
        Due.is("moved to 49", x.shows(0, 0, 1), 200);
        Due.is("moved to 50", x.shows(0, 0, 2), 200);
        Due.is("moved to 51", x.shows(0, 0, 3), 20);
    }

    private static void rightSide() {
        Due.sentence("and its position at t plus its width is above this");
        Due.is("to 49", columnZero(-51, 100), 20);
        Due.is("to 50", columnZero(-50, 100), 20);
        Due.is("to 51", columnZero(-49, 100), 200);
        Due.is("to 50, of the least width", columnZero(0, 50), 20);
        Due.is("to 51, of the least width but one", columnZero(0, 51), 200);
        Due.is("to 51, of the least width", columnZero(1, 50), 200);
        Due.is("to 50, of the greatest width", columnZero(-1550, 1600), 20);
        Due.is("to 51, of the greatest width", columnZero(-1549, 1600), 200);
        RowVotes x = new RowVotes();
        x.thing(0, 0, -48, -1, 100, 200);
        Due.is("moved to 51", x.shows(0, 0, 1), 200);
        Due.is("moved to 50", x.shows(0, 0, 2), 20);
    }

    private static void sidesInAllColumns() {
        Due.sentence("covers the middle of the column");
        for (int column = 0; column < 16; column++) {
            RowVotes x = Cameras.of(4, 16, 0);
            int middle = 100 * column + 50;
            x.thing(0, 0, middle, 0, 50, 200);
            x.thing(1, 1, middle + 1, 0, 50, 200);
            x.thing(2, 2, middle - 50, 0, 50, 200);
            x.thing(3, 3, middle - 49, 0, 50, 200);
            Due.is("left side in the middle of " + column, x.shows(0, column, 0), 200);
            Due.is("left side behind it", x.shows(1, column, 0), 20);
            Due.is("right side in it", x.shows(2, column, 0), 20);
            Due.is("right side behind it", x.shows(3, column, 0), 200);
            int next = column < 15 ? column + 1 : column - 1;
            Due.is("the column beside " + column, x.shows(0, next, 0), 20);
        }
    }

    private static void rowsOfAThing() {
        Due.sentence("that is in this row (from its top to its bottom one)");
        RowVotes x = Cameras.of(10, 4, 0);
        x.thing(3, 5, 0, 0, 100, 200);
        x.thing(7, 7, 0, 0, 100, 210);
        x.thing(9, 9, 0, 0, 100, 220);
        int[] due = {20, 20, 20, 200, 200, 200, 20, 210, 20, 220};
        for (int row = 0; row <= 9; row++) {
            Due.is("row " + row, x.shows(row, 0, 0), due[row]);
        }
    }

    private static void greatestNumber() {
        Due.sentence("the brightness of the thing with the greatest number");
        RowVotes x = new RowVotes();
        int[] brightness = {200, 100, 0, 255};
        for (int i = 0; i < 4; i++) {
            x.thing(0, i, 0, 0, 100 * (4 - i), brightness[i]);
            Due.is("on top of " + i + " others", x.shows(0, 0, 0), brightness[i]);
        }
        for (int column = 0; column < 4; column++) {
            Due.is("column " + column, x.shows(0, column, 0), brightness[3 - column]);
        }
        Due.is("row 1", x.shows(1, 0, 0), 255);
        Due.is("row 1 behind it", x.shows(1, 1, 0), 0);
        Due.is("row 3", x.shows(3, 0, 0), 255);
        Due.is("row 4", x.shows(4, 0, 0), 20);
    }

    private static void timesShown() {
        Due.sentence("- `time`: 0 to 20000");
        RowVotes x = new RowVotes();
        x.set(2, 9);
        x.thing(0, 9, -20000, 1, 100, 200);
        Cameras.lamp(x, 20, 1, 0);
        for (int time : new int[] {-1, 20001, Integer.MIN_VALUE, Integer.MAX_VALUE}) {
            Due.is("shows(0, 0, " + time + ")", x.shows(0, 0, time), Cameras.INVALID);
        }
        Due.is("at 0", x.shows(0, 0, 0), 0);
        Due.is("at 1", x.shows(0, 0, 1), 20);
        Due.is("at 19950", x.shows(0, 0, 19950), 20);
        Due.is("at 19951", x.shows(0, 0, 19951), 200);
        Due.is("at 19999", x.shows(0, 0, 19999), 200);
        Due.is("at 20000", x.shows(0, 0, 20000), 0);
        Due.is("at 20000, row 5", x.shows(5, 0, 20000), 0);
        Due.is("at 19999, row 5", x.shows(5, 0, 19999), 200);
        Due.is("the time stays", x.count(2), 0);
    }

    private static void blindedOrNotShown() {
        Due.sentence("Returns what a column would show, whether its row is blinded or not.");
        RowVotes x = new RowVotes();
        x.thing(2, 4, 0, 0, 100, 200);
        for (int row = 0; row < 6; row++) {
            int due = row >= 2 && row <= 4 ? 200 : 20;
            Due.is("row " + row, x.shows(row, 0, 0), due);
            x.blind(row, 1);
            Due.is("row " + row + ", blinded", x.shows(row, 0, 0), due);
        }
    }
}
