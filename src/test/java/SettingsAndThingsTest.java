/** Promises 1 to 7: a new object, settings and things. */
public final class SettingsAndThingsTest {
    private static final int INVALID = -10000001;
    private static final int IMPOSSIBLE = -10000002;
    private static final int LIMIT = -10000003;

    public static void main(String[] args) {
        promise1();
        promise2Ranges();
        promise2WithFrames();
        promise2FewerRows();
        promise3();
        promise4();
        promise5();
        promise6();
        promise7Columns();
        promise7Things();
        promise7Lamp();
        Due.end();
    }

    private static void promise1() {
        RowVotes x = new RowVotes();
        int[] first = {6, 12, 1, 40, 20, 0, 0, 50};
        for (int what = 0; what <= 7; what++) {
            Due.is("1: count(" + what + ")", x.count(what), 0);
            Due.is("1: count(" + (10 + what) + ")", x.count(10 + what), first[what]);
        }
        for (int row = 0; row <= 9; row++) {
            Due.is("1: rowOf(" + row + ", 0)", x.rowOf(row, 0), 0);
            Due.is("1: rowOf(" + row + ", 3)", x.rowOf(row, 3), 1);
        }
        Due.is("1: thingOf(0, 0)", x.thingOf(0, 0), INVALID);
        Due.is("1: frameOf(0, 0)", x.frameOf(0, 0), INVALID);
        Due.is("1: undo()", x.undo(), IMPOSSIBLE);
        Due.is("INVALID_ARGUMENT", RowVotes.INVALID_ARGUMENT, INVALID);
        Due.is("NOT_POSSIBLE", RowVotes.NOT_POSSIBLE, IMPOSSIBLE);
        Due.is("LIMIT_REACHED", RowVotes.LIMIT_REACHED, LIMIT);
        Due.is("NOT_FOUND", RowVotes.NOT_FOUND, -10000004);
    }

    private static void promise2Ranges() {
        RowVotes x = new RowVotes();
        int[] first = {6, 12, 1, 40, 20, 0, 0, 50};
        int[] least = {1, 4, 0, 1, 0, 0, 0, 0};
        int[] most = {10, 16, 9, 255, 255, 20, 20, 100};
        for (int what = 0; what <= 7; what++) {
            Due.is("2: below the range of " + what, x.set(what, least[what] - 1), INVALID);
            Due.is("2: above the range of " + what, x.set(what, most[what] + 1), INVALID);
            Due.is("2: the least of " + what, x.set(what, least[what]), first[what]);
            Due.is("2: the least of " + what + " is set", x.count(10 + what), least[what]);
            Due.is("2: the most of " + what, x.set(what, most[what]), least[what]);
            Due.is("2: the most of " + what + " is set", x.count(10 + what), most[what]);
        }
        int[] wrong = {-1, 8, Integer.MIN_VALUE, Integer.MAX_VALUE};
        for (int what : wrong) {
            Due.is("2: set(" + what + ", 5)", x.set(what, 5), INVALID);
            Due.is("2: set(3, " + what + ")", x.set(3, what == 8 ? 300 : what), INVALID);
        }
    }

    private static void promise2WithFrames() {
        RowVotes x = new RowVotes();
        x.shoot();
        Due.is("2: rows with a frame", x.set(0, 5), IMPOSSIBLE);
        Due.is("2: the same rows with a frame", x.set(0, 6), IMPOSSIBLE);
        Due.is("2: columns with a frame", x.set(1, 10), IMPOSSIBLE);
        Due.is("2: delay with a frame", x.set(2, 0), IMPOSSIBLE);
        Due.is("2: too many rows with a frame", x.set(0, 11), INVALID);
        Due.is("2: the errors are no changes", x.count(6), 1);
        Due.is("2: threshold with a frame", x.set(3, 41), 40);
        Due.is("2: ground with a frame", x.set(4, 21), 20);
        Due.is("2: dim with a frame", x.set(7, 51), 50);
        Due.is("2: they are changes", x.count(6), 4);
        x.forget(0);
        Due.is("2: rows without frames again", x.set(0, 5), 6);
        Due.is("2: columns without frames again", x.set(1, 10), 12);
        Due.is("2: delay without frames again", x.set(2, 0), 1);
    }

    private static void promise2FewerRows() {
        RowVotes x = new RowVotes();
        x.thing(4, 9, 0, 0, 1600, 200);
        x.blind(8, 1);
        Due.is("2: fewer rows", x.set(0, 3), 6);
        Due.is("2: the thing has its top", x.thingOf(0, 0), 4);
        Due.is("2: the thing has its bottom", x.thingOf(0, 1), 9);
        Due.is("2: the row is blinded", x.rowOf(8, 0), 1);
        Due.is("2: count(3)", x.count(3), 1);
        Due.is("2: shows(3, 0, 0)", x.shows(3, 0, 0), INVALID);
        x.shoot();
        Due.is("2: a row that there is not is not in the frame", x.frameOf(0, 1), 0);
        x.forget(0);
        x.set(0, 10);
        Due.is("2: shows(9, 0, 0)", x.shows(9, 0, 0), 200);
        x.shoot();
        Due.is("2: a row that there is again", x.frameOf(0, 1), 256);
    }

    private static void promise3() {
        RowVotes x = new RowVotes();
        int[][] wrong = {{-1, 5, 0, 0, 100, 9}, {10, 10, 0, 0, 100, 9}, {3, 2, 0, 0, 100, 9}, {3, 10, 0, 0, 100, 9},
            {0, 0, -20001, 0, 100, 9}, {0, 0, 20001, 0, 100, 9}, {0, 0, 0, -201, 100, 9}, {0, 0, 0, 201, 100, 9},
            {0, 0, 0, 0, 49, 9}, {0, 0, 0, 0, 1601, 9}, {0, 0, 0, 0, 100, -1}, {0, 0, 0, 0, 100, 256},
            {Integer.MIN_VALUE, 0, 0, 0, 100, 9}, {0, Integer.MAX_VALUE, 0, 0, 100, 9}};
        refuseThings(x, wrong);
        Due.is("3: no change yet", x.count(6), 0);
        Due.is("3: all least", x.thing(0, 0, -20000, -200, 50, 0), 0);
        Due.is("3: all most", x.thing(9, 9, 20000, 200, 1600, 255), 1);
        Due.is("3: some", x.thing(2, 5, 300, -7, 250, 99), 2);
        Due.is("3: the last", x.thing(0, 9, 0, 0, 100, 1), 3);
        Due.is("3: a fifth one", x.thing(0, 9, 0, 0, 100, 1), LIMIT);
        refuseThings(x, wrong);
        Due.is("3: count(0)", x.count(0), 4);
        Due.is("3: four changes", x.count(6), 4);
    }

    private static void refuseThings(RowVotes x, int[][] wrong) {
        for (int i = 0; i < wrong.length; i++) {
            int[] n = wrong[i];
            Due.is("3: wrong thing " + i, x.thing(n[0], n[1], n[2], n[3], n[4], n[5]), INVALID);
        }
    }

    private static void promise4() {
        RowVotes x = new RowVotes();
        x.thing(0, 5, 100, 50, 300, 200);
        Due.is("4: turn(1, 0)", x.turn(1, 0), INVALID);
        Due.is("4: turn(-1, 0)", x.turn(-1, 0), INVALID);
        Due.is("4: turn(0, 201)", x.turn(0, 201), INVALID);
        Due.is("4: turn(0, -201)", x.turn(0, -201), INVALID);
        x.pass(10);
        Due.is("4: turn(0, -20)", x.turn(0, -20), 50);
        Due.is("4: its speed", x.thingOf(0, 3), -20);
        Due.is("4: its position at the time 0", x.thingOf(0, 2), 800);
        Due.is("4: its position now", x.thingOf(0, 6), 600);
        x.pass(5);
        Due.is("4: its position later", x.thingOf(0, 6), 500);
        Due.is("4: what is shown at the time 0", x.shows(0, 8, 0), 200);
        Due.is("4: what is not shown at the time 0", x.shows(0, 1, 0), 20);
        Due.is("4: turn(0, 200)", x.turn(0, 200), -20);
        Due.is("4: turn(0, -200)", x.turn(0, -200), 200);
        Due.is("4: where it was turned", x.thingOf(0, 6), 500);
        Due.is("4: turned to the speed it has", x.turn(0, -200), -200);
        Due.is("4: that is a change", x.count(6), 4);
        Due.is("4: where it was turned, at the time 0", x.thingOf(0, 2), 3500);
    }

    private static void promise5() {
        RowVotes x = new RowVotes();
        x.thing(1, 1, 7, 8, 90, 11);
        x.thing(2, 4, -600, 30, 500, 77);
        x.pass(3);
        int[] due = {2, 4, -600, 30, 500, 77, -510};
        for (int what = 0; what <= 6; what++) {
            Due.is("5: thingOf(1, " + what + ")", x.thingOf(1, what), due[what]);
        }
        Due.is("5: thingOf(0, 6)", x.thingOf(0, 6), 31);
        Due.is("5: thingOf(1, 7)", x.thingOf(1, 7), INVALID);
        Due.is("5: thingOf(1, -1)", x.thingOf(1, -1), INVALID);
        Due.is("5: thingOf(2, 0)", x.thingOf(2, 0), INVALID);
        Due.is("5: thingOf(-1, 0)", x.thingOf(-1, 0), INVALID);
    }

    private static void promise6() {
        RowVotes x = new RowVotes();
        Due.is("6: a row that is not blinded, no more", x.blind(0, 0), IMPOSSIBLE);
        Due.is("6: blind(0, 1)", x.blind(0, 1), 1);
        Due.is("6: blind(9, 1)", x.blind(9, 1), 2);
        Due.is("6: blind(9, 1) again", x.blind(9, 1), IMPOSSIBLE);
        Due.is("6: blind(10, 1)", x.blind(10, 1), INVALID);
        Due.is("6: blind(-1, 1)", x.blind(-1, 1), INVALID);
        Due.is("6: blind(9, 2)", x.blind(9, 2), INVALID);
        Due.is("6: blind(9, -1)", x.blind(9, -1), INVALID);
        Due.is("6: two changes", x.count(6), 2);
        Due.is("6: blind(0, 0)", x.blind(0, 0), 1);
        Due.is("6: rowOf(0, 0)", x.rowOf(0, 0), 0);
        Due.is("6: rowOf(9, 0)", x.rowOf(9, 0), 1);
    }

    private static void promise7Columns() {
        RowVotes x = new RowVotes();
        x.thing(0, 0, 150, 0, 100, 200);
        x.thing(1, 1, 151, 0, 100, 201);
        x.thing(2, 2, 150, 0, 101, 202);
        Due.is("7: left of the thing", x.shows(0, 0, 0), 20);
        Due.is("7: the middle at the left side", x.shows(0, 1, 0), 200);
        Due.is("7: the middle at the right side", x.shows(0, 2, 0), 20);
        Due.is("7: the middle left of the left side", x.shows(1, 1, 0), 20);
        Due.is("7: the middle behind the left side", x.shows(1, 2, 0), 201);
        Due.is("7: the middle less than the right side", x.shows(2, 2, 0), 202);
        Due.is("7: right of the thing", x.shows(2, 3, 0), 20);
        Due.is("7: shows(-1, 0, 0)", x.shows(-1, 0, 0), INVALID);
        Due.is("7: shows(6, 0, 0)", x.shows(6, 0, 0), INVALID);
        Due.is("7: shows(0, -1, 0)", x.shows(0, -1, 0), INVALID);
        Due.is("7: shows(0, 12, 0)", x.shows(0, 12, 0), INVALID);
        Due.is("7: shows(0, 0, -1)", x.shows(0, 0, -1), INVALID);
        Due.is("7: shows(0, 0, 20001)", x.shows(0, 0, 20001), INVALID);
        Due.is("7: shows(5, 11, 20000)", x.shows(5, 11, 20000), 20);
        x.set(1, 16);
        Due.is("7: the sixteenth column", x.shows(0, 15, 0), 20);
    }

    private static void promise7Things() {
        RowVotes x = new RowVotes();
        x.thing(1, 3, 0, 0, 400, 100);
        x.thing(2, 2, 100, 0, 200, 110);
        x.thing(2, 9, -20000, 1, 150, 120);
        Due.is("7: above the first thing", x.shows(0, 1, 0), 20);
        Due.is("7: the top row", x.shows(1, 1, 0), 100);
        Due.is("7: the greater number", x.shows(2, 1, 0), 110);
        Due.is("7: beside the greater number", x.shows(2, 3, 0), 100);
        Due.is("7: the bottom row", x.shows(3, 3, 0), 100);
        Due.is("7: below it", x.shows(4, 3, 0), 20);
        Due.is("7: the last thing has come", x.shows(2, 1, 20000), 110);
        Due.is("7: it covers the others", x.shows(2, 0, 20000), 120);
        Due.is("7: rows look at the same time here", x.shows(5, 0, 20000), 120);
        Due.is("7: not yet in the column 0", x.shows(5, 0, 19900), 20);
        Due.is("7: just in the column 0", x.shows(5, 0, 19901), 120);
        x.blind(2, 1);
        Due.is("7: a blinded row", x.shows(2, 1, 0), 110);
        x.pass(200);
        Due.is("7: whatever the time is", x.shows(2, 1, 0), 110);
    }

    private static void promise7Lamp() {
        RowVotes x = new RowVotes();
        x.thing(0, 0, 0, 0, 100, 255);
        x.set(7, 33);
        x.set(6, 2);
        Due.is("7: without a period", x.shows(0, 0, 0), 255);
        x.set(5, 5);
        int[] due = {84, 84, 255, 255, 255, 84};
        for (int time = 0; time < due.length; time++) {
            Due.is("7: the lamp at " + time, x.shows(0, 0, time), due[time]);
        }
        Due.is("7: the dim ground", x.shows(0, 1, 0), 6);
        x.set(6, 20);
        Due.is("7: always dark", x.shows(0, 0, 4), 84);
        x.set(7, 0);
        Due.is("7: black", x.shows(0, 0, 4), 0);
        x.set(7, 100);
        Due.is("7: dark, but not dimmed", x.shows(0, 0, 4), 255);
        x.set(7, 50);
        x.set(6, 0);
        Due.is("7: no dark ticks", x.shows(0, 0, 0), 255);
    }
}
