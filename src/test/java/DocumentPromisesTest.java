/** The promises 1 to 33 in the document's order: what each call is for, an edge of it, and wrong inputs. */
public final class DocumentPromisesTest {
    private static final int INVALID = Cameras.INVALID;
    private static final int IMPOSSIBLE = Cameras.IMPOSSIBLE;
    private static final int LIMIT = Cameras.LIMIT;
    private static final int NONE = Cameras.NONE;
    private static final int[] FAR = {Integer.MIN_VALUE, Integer.MIN_VALUE + 1, -1000, -1, 1000, Integer.MAX_VALUE};

    public static void main(String[] args) {
        settingsAndThings();
        frames();
        votes();
        fits();
        texts();
        Due.end();
    }

    private static void settingsAndThings() {
        newObject();
        set();
        thing();
        turn();
        thingOf();
        blind();
        shows();
    }

    private static void frames() {
        shoot();
        forget();
        frameOf();
        pixel();
        edges();
        pass();
    }

    private static void votes() {
        vote();
        shift();
        voters();
        dissent();
        speed();
        slant();
        slantSpeed();
        weighed();
        judge();
        rowOf();
        bestWait();
    }

    private static void fits() {
        motions();
        periods();
        fitting();
        count();
        undo();
    }

    private static void texts() {
        type();
        clearText();
        fault();
        play();
    }

    /** Rows 0 to 2 vote for 2, row 3 for -1; row 4 sees nothing. */
    private static RowVotes moved() {
        return Cameras.edges(5, new int[] {0, 2, 4, 6}, new int[] {3, 3, 4, 3});
    }

    private static void newObject() {
        Due.sentence("## Promise 1: A new object\n\n`RowVotes()`: Creates a camera without things and frames, at the time 0.");
        RowVotes used = new RowVotes();
        used.thing(0, 0, 0, 0, 100, 100);
        used.shoot();
        used.pass(9);
        RowVotes x = new RowVotes();
        for (int what = 0; what <= 7; what++) {
            Due.is("count(" + what + ")", x.count(what), 0);
        }
        Due.is("no thing", x.thingOf(0, 0), INVALID);
        Due.is("no frame", x.frameOf(0, 0), INVALID);
        Due.is("no history", x.undo(), IMPOSSIBLE);
        Due.is("the one that was used is as it was", used.count(2), 9);
    }

    private static void set() {
        Due.sentence("## Promise 2: set\n\n`int set(int what, int value)`: Sets a setting.");
        RowVotes x = new RowVotes();
        int[] first = {6, 12, 1, 40, 20, 0, 0, 50};
        int[] other = {10, 4, 9, 255, 0, 20, 20, 100};
        for (int what = 0; what <= 7; what++) {
            Due.is("set(" + what + ", " + other[what] + ")", x.set(what, other[what]), first[what]);
            Due.is("it is so", x.count(10 + what), other[what]);
            for (int far : FAR) {
                Due.is("set(" + what + ", " + far + ")", x.set(what, far), INVALID);
            }
        }
        for (int what : new int[] {-1, 8, 10, Integer.MIN_VALUE, Integer.MAX_VALUE}) {
            Due.is("set(" + what + ", 5)", x.set(what, 5), INVALID);
        }
        x.shoot();
        for (int what = 0; what <= 7; what++) {
            Due.is("set(" + what + ", 4), a frame is kept", x.set(what, 4), what <= 2 ? IMPOSSIBLE : other[what]);
        }
        x.forget(0);
        Due.is("set(0, 4), no frame is kept", x.set(0, 4), 10);
    }

    private static void thing() {
        Due.sentence("## Promise 3: thing\n\n`int thing(int top, int bottom, int position, int speed, int width, int brightness)`: "
            + "Adds a thing.");
        RowVotes x = new RowVotes();
        Due.is("the first one", x.thing(0, 0, -20000, -200, 50, 0), 0);
        Due.is("the second one", x.thing(9, 9, 20000, 200, 1600, 255), 1);
        Due.is("the third one", x.thing(0, 9, 0, 0, 100, 100), 2);
        for (int far : FAR) {
            Due.is("top " + far, x.thing(far, 9, 0, 0, 100, 100), INVALID);
            Due.is("bottom " + far, x.thing(0, far, 0, 0, 100, 100), INVALID);
            Due.is("brightness " + far, x.thing(0, 0, 0, 0, 100, far), INVALID);
        }
        for (int far : new int[] {Integer.MIN_VALUE, -20001, 20001, Integer.MAX_VALUE}) {
            Due.is("position " + far, x.thing(0, 0, far, 0, 100, 100), INVALID);
            Due.is("speed " + far, x.thing(0, 0, 0, far, 100, 100), INVALID);
            Due.is("width " + far, x.thing(0, 0, 0, 0, far, 100), INVALID);
        }
        Due.is("the fourth one", x.thing(5, 5, 5, 5, 55, 5), 3);
        Due.is("a fifth one", x.thing(5, 5, 5, 5, 55, 5), LIMIT);
        Due.is("a fifth one that is too narrow", x.thing(5, 5, 5, 5, 49, 5), INVALID);
    }

    private static void turn() {
        Due.sentence("## Promise 4: turn\n\n`int turn(int thing, int speed)`: Turns a thing.");
        RowVotes x = new RowVotes();
        Due.is("there is none", x.turn(0, 0), INVALID);
        x.thing(0, 5, 0, 30, 100, 200);
        x.pass(10);
        Due.is("turn(0, -200)", x.turn(0, -200), 30);
        Due.is("turn(0, 200)", x.turn(0, 200), -200);
        Due.is("it is where it was", x.thingOf(0, 6), 300);
        Due.is("its speed", x.thingOf(0, 3), 200);
        Due.is("its position at the time 0", x.thingOf(0, 2), -1700);
        Due.is("turn(0, 201)", x.turn(0, 201), INVALID);
        Due.is("turn(0, -201)", x.turn(0, -201), INVALID);
        for (int far : FAR) {
            Due.is("turn(" + far + ", 0)", x.turn(far, 0), INVALID);
        }
    }

    private static void thingOf() {
        Due.sentence("## Promise 5: thingOf\n\n`int thingOf(int thing, int what)`: Returns something of a thing.");
        RowVotes x = new RowVotes();
        x.thing(0, 0, 0, 0, 100, 100);
        x.thing(2, 7, -150, 25, 333, 44);
        x.pass(4);
        int[] due = {2, 7, -150, 25, 333, 44, -50};
        for (int what = 0; what < due.length; what++) {
            Due.is("thingOf(1, " + what + ")", x.thingOf(1, what), due[what]);
        }
        Due.is("thingOf(1, 7)", x.thingOf(1, 7), INVALID);
        Due.is("thingOf(2, 0)", x.thingOf(2, 0), INVALID);
        for (int far : FAR) {
            Due.is("thingOf(" + far + ", 0)", x.thingOf(far, 0), INVALID);
            Due.is("thingOf(0, " + far + ")", x.thingOf(0, far), INVALID);
        }
    }

    private static void blind() {
        Due.sentence("## Promise 6: blind\n\n`int blind(int row, int is)`: Blinds a row, or does so no more.");
        RowVotes x = new RowVotes();
        for (int row = 9; row >= 0; row--) {
            Due.is("blind(" + row + ", 0) of what sees", x.blind(row, 0), IMPOSSIBLE);
            Due.is("blind(" + row + ", 1)", x.blind(row, 1), 10 - row);
            Due.is("blind(" + row + ", 1) again", x.blind(row, 1), IMPOSSIBLE);
        }
        Due.is("blind(4, 0)", x.blind(4, 0), 9);
        Due.is("blind(4, 2)", x.blind(4, 2), INVALID);
        Due.is("blind(10, 1)", x.blind(10, 1), INVALID);
        for (int far : FAR) {
            Due.is("blind(" + far + ", 1)", x.blind(far, 1), INVALID);
            Due.is("blind(0, " + far + ")", x.blind(0, far), INVALID);
        }
    }

    private static void shows() {
        Due.sentence("## Promise 7: shows\n\n`int shows(int row, int column, int time)`: Returns what a column would show, whether "
            + "its row is blinded or not.");
        RowVotes x = new RowVotes();
        x.thing(1, 1, 0, 1, 100, 150);
        x.thing(1, 5, 51, 0, 100, 250);
        x.blind(1, 1);
        Due.is("the first one covers the middle", x.shows(1, 0, 0), 150);
        Due.is("up to the time 50", x.shows(1, 0, 50), 150);
        Due.is("no more at 51", x.shows(1, 0, 51), 20);
        Due.is("both in column 1: the second one", x.shows(1, 1, 60), 250);
        Due.is("the second one alone in row 2", x.shows(2, 1, 60), 250);
        Due.is("none in row 0", x.shows(0, 1, 60), 20);
        Due.is("at the last time", x.shows(1, 11, 20000), 20);
        Due.is("beyond it", x.shows(1, 11, 20001), INVALID);
        for (int far : FAR) {
            Due.is("shows(" + far + ", 0, 0)", x.shows(far, 0, 0), INVALID);
            Due.is("shows(0, " + far + ", 0)", x.shows(0, far, 0), INVALID);
        }
    }

    private static void shoot() {
        Due.sentence("## Promise 8: shoot\n\n`int shoot()`: Takes a frame.\n\nReturns how many frames are kept then.");
        RowVotes x = new RowVotes();
        for (int taken = 1; taken <= 8; taken++) {
            Due.is("shoot", x.shoot(), Math.min(taken, 5));
            Due.is("its time", x.frameOf(Math.min(taken, 5) - 1, 0), taken - 1);
            Due.is("taken so far", x.count(4), taken);
            x.pass(1);
        }
        Due.is("the oldest one that is kept", x.frameOf(0, 0), 3);
    }

    private static void forget() {
        Due.sentence("## Promise 9: forget\n\n`int forget(int frame)`: Forgets a frame.");
        RowVotes x = new RowVotes();
        Due.is("there is none", x.forget(0), INVALID);
        for (int i = 0; i < 4; i++) {
            x.shoot();
            x.pass(10);
        }
        Due.is("forget(1)", x.forget(1), 3);
        Due.is("frame 0", x.frameOf(0, 0), 0);
        Due.is("frame 1", x.frameOf(1, 0), 20);
        Due.is("frame 2", x.frameOf(2, 0), 30);
        Due.is("frame 3", x.frameOf(3, 0), INVALID);
        for (int far : FAR) {
            Due.is("forget(" + far + ")", x.forget(far), INVALID);
        }
        Due.is("forget(3)", x.forget(3), INVALID);
        Due.is("forget(2)", x.forget(2), 2);
        Due.is("forget(0)", x.forget(0), 1);
        Due.is("forget(0) again", x.forget(0), 0);
    }

    private static void frameOf() {
        Due.sentence("## Promise 10: frameOf\n\n`int frameOf(int frame, int what)`: Returns something of a frame.");
        RowVotes x = moved();
        x.blind(1, 1);
        x.blind(4, 1);
        x.blind(5, 1);
        x.shoot();
        Due.is("its time", x.frameOf(1, 0), 10);
        Due.is("no row was blinded", x.frameOf(1, 1), 0);
        Due.is("edges in four rows", x.frameOf(1, 2), 4);
        Due.is("rows 1 and 4 were blinded", x.frameOf(2, 1), 2 + 16);
        Due.is("edges in three rows", x.frameOf(2, 2), 3);
        Due.is("frameOf(2, 3)", x.frameOf(2, 3), INVALID);
        Due.is("frameOf(3, 0)", x.frameOf(3, 0), INVALID);
        for (int far : FAR) {
            Due.is("frameOf(" + far + ", 0)", x.frameOf(far, 0), INVALID);
            Due.is("frameOf(0, " + far + ")", x.frameOf(0, far), INVALID);
        }
    }

    private static void pixel() {
        Due.sentence("## Promise 11: pixel\n\n`int pixel(int frame, int row, int column)`: Returns a pixel.");
        RowVotes x = moved();
        x.blind(0, 1);
        x.shoot();
        Due.is("left of the edge", x.pixel(0, 0, 3), 20);
        Due.is("right of it", x.pixel(0, 0, 4), 200);
        Due.is("left of the edge later", x.pixel(1, 2, 5), 20);
        Due.is("right of it later", x.pixel(1, 2, 6), 200);
        Due.is("the last column", x.pixel(1, 3, 15), 200);
        Due.is("a blinded row", x.pixel(2, 0, 4), NONE);
        Due.is("a blinded row, no such column", x.pixel(2, 0, 16), INVALID);
        Due.is("no such row", x.pixel(2, 5, 0), INVALID);
        Due.is("no such frame", x.pixel(3, 0, 0), INVALID);
        for (int far : FAR) {
            Due.is("pixel(" + far + ", 1, 0)", x.pixel(far, 1, 0), INVALID);
            Due.is("pixel(2, " + far + ", 0)", x.pixel(2, far, 0), INVALID);
            Due.is("pixel(2, 1, " + far + ")", x.pixel(2, 1, far), INVALID);
        }
    }

    private static void edges() {
        Due.sentence("## Promise 12: edges\n\n`int edges(int frame, int row)`: Returns the edges in a row.");
        RowVotes x = moved();
        x.blind(0, 1);
        x.shoot();
        Due.is("row 0", x.edges(0, 0), 1 << 4);
        Due.is("row 0 later", x.edges(1, 0), 1 << 6);
        Due.is("row 3 later", x.edges(1, 3), 1 << 3);
        Due.is("row 4", x.edges(1, 4), 0);
        Due.is("a blinded row", x.edges(2, 0), NONE);
        Due.is("no such row", x.edges(2, 5), INVALID);
        Due.is("no such frame", x.edges(3, 0), INVALID);
        for (int far : FAR) {
            Due.is("edges(" + far + ", 1)", x.edges(far, 1), INVALID);
            Due.is("edges(2, " + far + ")", x.edges(2, far), INVALID);
        }
    }

    private static void pass() {
        Due.sentence("## Promise 13: pass\n\n`int pass(int ticks)`: Lets ticks go by.");
        RowVotes x = new RowVotes();
        for (int i = 1; i < 100; i++) {
            Due.is("pass(200)", x.pass(200), 200 * i);
        }
        Due.is("pass(199)", x.pass(199), 19999);
        Due.is("pass(2) beyond the last time", x.pass(2), LIMIT);
        Due.is("pass(1)", x.pass(1), 20000);
        Due.is("pass(1) again", x.pass(1), LIMIT);
        Due.is("pass(0)", x.pass(0), INVALID);
        Due.is("pass(201)", x.pass(201), INVALID);
        for (int far : FAR) {
            Due.is("pass(" + far + ")", x.pass(far), INVALID);
        }
        Due.is("the time", x.count(2), 20000);
    }

    private static void vote() {
        Due.sentence("## Promise 14: vote\n\n`int vote(int first, int second, int row)`: Returns what a row votes for.");
        RowVotes x = moved();
        int[] due = {2, 2, 2, -1, NONE};
        for (int row = 0; row < due.length; row++) {
            Due.is("vote(0, 1, " + row + ")", x.vote(0, 1, row), due[row]);
            Due.is("vote(1, 0, " + row + ")", x.vote(1, 0, row), due[row] == NONE ? NONE : -due[row]);
        }
        Due.is("vote(0, 1, 5)", x.vote(0, 1, 5), INVALID);
        wrongPairs((a, b) -> x.vote(a, b, 0));
        for (int far : FAR) {
            Due.is("vote(0, 1, " + far + ")", x.vote(0, 1, far), INVALID);
        }
    }

    /** A call with two frames, of which there are 0 and 1. */
    private interface OfFrames {
        int answer(int first, int second);
    }

    private static void wrongPairs(OfFrames call) {
        Due.is("both the same", call.answer(1, 1), INVALID);
        Due.is("both the same, and no frame", call.answer(2, 2), INVALID);
        for (int wrong : new int[] {-1, 2, 5, Integer.MIN_VALUE, Integer.MAX_VALUE}) {
            Due.is("the first one is " + wrong, call.answer(wrong, 1), INVALID);
            Due.is("the second one is " + wrong, call.answer(0, wrong), INVALID);
        }
    }

    private static void shift() {
        Due.sentence("## Promise 15: shift\n\n`int shift(int first, int second)`: Returns the shift that is told.");
        RowVotes x = moved();
        Due.is("shift(0, 1)", x.shift(0, 1), 2);
        Due.is("shift(1, 0)", x.shift(1, 0), -2);
        Due.is("a tie", Cameras.edges(2, new int[] {0, 0, 4, 6}, new int[] {1, 1, 4, 5}).shift(0, 1), NONE);
        Due.is("no vote", Cameras.edges(2).shift(0, 1), NONE);
        wrongPairs(x::shift);
    }

    private static void voters() {
        Due.sentence("## Promise 16: voters\n\n`int voters(int first, int second, int shift)`: Returns the rows that vote for a "
            + "shift.");
        RowVotes x = moved();
        for (int shift = -8; shift <= 8; shift++) {
            Due.is("voters(0, 1, " + shift + ")", x.voters(0, 1, shift), shift == 2 ? 7 : shift == -1 ? 8 : 0);
        }
        Due.is("voters(0, 1, 9)", x.voters(0, 1, 9), INVALID);
        Due.is("voters(0, 1, -9)", x.voters(0, 1, -9), INVALID);
        Due.is("voters(0, 1, NOT_FOUND)", x.voters(0, 1, NONE), INVALID);
        wrongPairs((a, b) -> x.voters(a, b, 2));
    }

    private static void dissent() {
        Due.sentence("## Promise 17: dissent\n\n`int dissent(int first, int second)`: Returns the rows that vote for another shift "
            + "than the one that is told.");
        RowVotes x = moved();
        Due.is("dissent(0, 1)", x.dissent(0, 1), 8);
        Due.is("dissent(1, 0)", x.dissent(1, 0), 8);
        x.blind(3, 1);
        x.shoot();
        Due.is("it is blinded", x.dissent(0, 2), 0);
        Due.is("a tie", Cameras.edges(2, new int[] {0, 0, 4, 6}, new int[] {1, 1, 4, 5}).dissent(0, 1), NONE);
        RowVotes y = moved();
        wrongPairs(y::dissent);
    }

    private static void speed() {
        Due.sentence("## Promise 18: speed\n\n`int speed(int first, int second)`: Returns the speed that is told: the shift that is "
            + "told, times 100, divided by the time of the second frame minus that of the first one, rounded toward 0.");
        RowVotes x = moved();
        Due.is("speed(0, 1)", x.speed(0, 1), 20);
        Due.is("speed(1, 0)", x.speed(1, 0), 20);
        wrongPairs(x::speed);
        x.shoot();
        Due.is("the same time", x.speed(1, 2), IMPOSSIBLE);
        RowVotes back = Cameras.of(1, 16, 0);
        Cameras.edge(back, 0, 0, 5, -100);
        back.shoot();
        back.pass(1);
        back.turn(0, 0);
        back.pass(6);
        back.shoot();
        Due.is("-100 by 7, toward 0", back.speed(0, 1), -14);
        Due.is("100 by -7, toward 0", back.speed(1, 0), -14);
        Due.is("no shift", Cameras.edges(2).speed(0, 1), NONE);
    }

    private static void slant() {
        Due.sentence("## Promise 19: slant\n\n`int slant(int frame)`: Returns the slant that is told of a frame.");
        RowVotes x = Cameras.of(4, 16, 3);
        Cameras.edge(x, 0, 3, 8, -67);
        x.shoot();
        Due.is("201 to the left by row", x.slant(0), -2);
        x.blind(1, 1);
        x.shoot();
        Due.is("the rows 2 and 3 alone", x.slant(1), -2);
        x.blind(2, 1);
        x.shoot();
        Due.is("no row with the one below it", x.slant(2), NONE);
        Due.is("slant(3)", x.slant(3), INVALID);
        for (int far : FAR) {
            Due.is("slant(" + far + ")", x.slant(far), INVALID);
        }
    }

    private static void slantSpeed() {
        Due.sentence("## Promise 20: slantSpeed\n\n`int slantSpeed(int frame)`: Returns the speed that is told by the slant of a "
            + "frame: the slant, times 100, divided by the delay of a row, rounded toward 0.");
        RowVotes x = Cameras.of(4, 16, 3);
        Cameras.edge(x, 0, 3, 8, -67);
        x.shoot();
        Due.is("-200 by 3, toward 0", x.slantSpeed(0), -66);
        x.set(3, 255);
        Due.is("without edges", x.slantSpeed(0), NONE);
        Due.is("slantSpeed(1)", x.slantSpeed(1), INVALID);
        for (int far : FAR) {
            Due.is("slantSpeed(" + far + ")", x.slantSpeed(far), INVALID);
        }
        Due.is("no delay", moved().slantSpeed(0), IMPOSSIBLE);
        Due.is("no delay, and no such frame", moved().slantSpeed(2), INVALID);
    }

    private static void weighed() {
        Due.sentence("## Promise 21: weighed\n\n`int weighed(int first, int second)`: Returns the shift for which the rows that vote "
            + "for it have the most weight together.");
        RowVotes x = Cameras.edges(3, new int[] {0, 0, 3, 5}, new int[] {1, 2, 3, 4});
        wrongPairs(x::weighed);
        x.blind(1, 1);
        x.blind(2, 1);
        x.shoot();
        Due.is("two rows of the weight 1 against one", x.weighed(0, 1), 1);
        Due.is("judge row 0 alone", x.judge(0, 2), 1);
        Due.is("two against one of the weight 2", x.weighed(0, 1), NONE);
        Due.is("judge row 0 again", x.judge(0, 2), 1);
        Due.is("two against one of the weight 3", x.weighed(0, 1), 2);
        Due.is("most votes are as they were", x.shift(0, 1), 1);
        Due.is("no vote", Cameras.edges(2).weighed(0, 1), NONE);
    }

    private static void judge() {
        Due.sentence("## Promise 22: judge\n\n`int judge(int first, int second)`: Judges the rows by two frames.");
        RowVotes x = moved();
        wrongPairs(x::judge);
        Due.is("judge(0, 1)", x.judge(0, 1), 4);
        Due.is("judge(1, 0)", x.judge(1, 0), 4);
        int[] agreed = {2, 2, 2, 0, 0};
        int[] dissented = {0, 0, 0, 2, 0};
        for (int row = 0; row < agreed.length; row++) {
            Due.is("row " + row + " has agreed", x.rowOf(row, 1), agreed[row]);
            Due.is("row " + row + " has dissented", x.rowOf(row, 2), dissented[row]);
        }
        Due.is("a tie", Cameras.edges(2, new int[] {0, 0, 4, 6}, new int[] {1, 1, 4, 5}).judge(0, 1), NONE);
        Due.is("undo", x.undo(), 3);
        Due.is("row 0 has agreed once less", x.rowOf(0, 1), 1);
    }

    private static void rowOf() {
        Due.sentence("## Promise 23: rowOf\n\n`int rowOf(int row, int what)`: Returns something of a row.");
        RowVotes x = moved();
        x.judge(0, 1);
        x.judge(0, 1);
        x.blind(9, 1);
        int[][] due = {{0, 2, 0, 3}, {0, 2, 0, 3}, {0, 2, 0, 3}, {0, 0, 2, 1}, {0, 0, 0, 1}, {0, 0, 0, 1}, {0, 0, 0, 1},
            {0, 0, 0, 1}, {0, 0, 0, 1}, {1, 0, 0, 1}};
        for (int row = 0; row < due.length; row++) {
            for (int what = 0; what <= 3; what++) {
                Due.is("rowOf(" + row + ", " + what + ")", x.rowOf(row, what), due[row][what]);
            }
        }
        Due.is("rowOf(10, 0)", x.rowOf(10, 0), INVALID);
        Due.is("rowOf(0, 4)", x.rowOf(0, 4), INVALID);
        for (int far : FAR) {
            Due.is("rowOf(" + far + ", 0)", x.rowOf(far, 0), INVALID);
            Due.is("rowOf(0, " + far + ")", x.rowOf(0, far), INVALID);
        }
    }

    private static void bestWait() {
        Due.sentence("## Promise 24: bestWait\n\n`int bestWait(int frame, int what)`: Finds in how many ticks (also beyond the time "
            + "20000) a frame would have to be taken, with all as it moves and is blinded now, so that with it as the second one "
            + "and a frame as the first one a shift is told by more votes than with any other number of ticks; of several the "
            + "least one.");
        // row 0 is at column 3 + (49 + 10t) / 100 at the time t, row 1 at 3 + (49 + 20t) / 100, up to a shift of 8
        RowVotes x = Cameras.of(2, 16, 0);
        Cameras.edge(x, 0, 0, 3, 10);
        Cameras.edge(x, 1, 1, 3, 20);
        x.shoot();
        Due.is("both have not moved", x.bestWait(0, 0), 1);
        Due.is("votes", x.bestWait(0, 1), 2);
        x.pass(2);
        Due.is("at 3, 4 and 5 they differ", x.bestWait(0, 0), 4);
        Due.is("both by 1 at 6", x.bestWait(0, 1), 2);
        x.pass(5);
        Due.is("at 43 row 1 is beyond 8 columns", x.bestWait(0, 0), 36);
        Due.is("row 0 alone", x.bestWait(0, 1), 1);
        x.blind(0, 1);
        Due.is("row 1 alone, as row 0 is blinded", x.bestWait(0, 0), 1);
        x.blind(1, 1);
        Due.is("both are blinded", x.bestWait(0, 0), NONE);
        Due.is("no votes", x.bestWait(0, 1), NONE);
        Due.is("bestWait(1, 0)", x.bestWait(1, 0), INVALID);
        Due.is("bestWait(0, 2)", x.bestWait(0, 2), INVALID);
        for (int far : FAR) {
            Due.is("bestWait(" + far + ", 0)", x.bestWait(far, 0), INVALID);
            Due.is("bestWait(0, " + far + ")", x.bestWait(0, far), INVALID);
        }
        RowVotes late = Cameras.of(1, 16, 9);
        Cameras.passTo(late, 20000);
        Cameras.edge(late, 0, 0, 3, 0);
        late.shoot();
        Due.is("at the last time", late.bestWait(0, 0), 1);
    }

    private static void motions() {
        Due.sentence("## Promise 25: motions\n\n`int motions(int thing, int what)`: Tells which motions fit a thing.");
        RowVotes x = Cameras.of(1, 4, 0);
        x.thing(0, 0, 0, 0, 100, 200);
        motionsAre(x, 735, -1000, -100, 2400, 100);
        x.shoot();
        motionsAre(x, 21, 0, -100, 0, 100);
        x.pass(4);
        x.shoot();
        // -50 < position + 4 * speed <= 50
        motionsAre(x, 3, 0, -10, 0, 10);
        x.set(4, 21);
        motionsAre(x, 0, NONE, NONE, NONE, NONE);
        Due.is("motions(1, 0)", x.motions(1, 0), INVALID);
        Due.is("motions(0, 5)", x.motions(0, 5), INVALID);
        for (int far : FAR) {
            Due.is("motions(" + far + ", 0)", x.motions(far, 0), INVALID);
            Due.is("motions(0, " + far + ")", x.motions(0, far), INVALID);
        }
    }

    private static void motionsAre(RowVotes x, int... due) {
        for (int what = 0; what < due.length; what++) {
            Due.is("motions(0, " + what + ")", x.motions(0, what), due[what]);
        }
    }

    private static void periods() {
        Due.sentence("## Promise 26: periods\n\n`int periods()`: Tells which periods of the lamp, 0 to 20, fit.\n\nReturns the set of "
            + "periods.");
        RowVotes x = Cameras.of(1, 4, 0);
        Due.is("without frames", x.periods(), 2097151);
        Cameras.lamp(x, 0, 5, 0);
        Cameras.passTo(x, 20);
        x.shoot();
        // 20 mod p is 5 or more for 7 and for 11 to 15 alone, and with the period 0 the lamp is never dark
        Due.is("lit at 20", x.periods(), 1 + (1 << 7) + (1 << 16) - (1 << 11));
        x.set(6, 0);
        Due.is("never dark", x.periods(), 2097151);
        x.set(6, 20);
        Due.is("dark by all but 0", x.periods(), 1);
        x.set(7, 100);
        Due.is("dark is as bright", x.periods(), 2097151);
    }

    private static void fitting() {
        Due.sentence("## Promise 27: fitting\n\n`int fitting(int frame)`: Tells which rows fit what there is now: the rows that were "
            + "not blinded in a frame and have the pixels there that they would have by all as it is now.");
        RowVotes x = moved();
        x.blind(2, 1);
        x.shoot();
        Due.is("all five", x.fitting(0), 31);
        Due.is("all but the one that was blinded", x.fitting(2), 31 - 4);
        x.turn(1, 0);
        Due.is("row 3 would be elsewhere at 0", x.fitting(0), 31 - 8);
        Due.is("not so at 10", x.fitting(1), 31);
        x.thing(0, 0, 0, 0, 100, 20);
        Due.is("another thing that is as bright as the ground", x.fitting(1), 31);
        x.set(4, 19);
        Due.is("another ground", x.fitting(1), 0);
        Due.is("fitting(3)", x.fitting(3), INVALID);
        for (int far : FAR) {
            Due.is("fitting(" + far + ")", x.fitting(far), INVALID);
        }
    }

    private static void count() {
        Due.sentence("## Promise 28: count\n\n`int count(int what)`: Returns a number.");
        RowVotes x = moved();
        x.forget(0);
        x.blind(7, 1);
        x.blind(8, 1);
        Cameras.lamp(x, 11, 11, 60);
        x.type('a');
        int[] due = {2, 1, 10, 2, 2, 1, 4, 1, INVALID, INVALID, 5, 16, 0, 40, 20, 11, 11, 60, INVALID};
        for (int what = 0; what < due.length; what++) {
            Due.is("count(" + what + ")", x.count(what), due[what]);
        }
        for (int far : FAR) {
            Due.is("count(" + far + ")", x.count(far), INVALID);
        }
    }

    private static void undo() {
        Due.sentence("## Promise 29: undo\n\n`int undo()`: Restores the latest state of the history, which is removed from it.");
        RowVotes x = new RowVotes();
        Due.is("undo at first", x.undo(), IMPOSSIBLE);
        x.thing(0, 5, 0, 0, 100, 200);
        x.shoot();
        x.pass(7);
        x.forget(0);
        Due.is("undo of forget", x.undo(), 3);
        Due.is("the frame is there", x.frameOf(0, 0), 0);
        Due.is("with its pixels", x.pixel(0, 5, 0), 200);
        Due.is("undo of pass", x.undo(), 2);
        Due.is("the time", x.count(2), 0);
        Due.is("undo of shoot", x.undo(), 1);
        Due.is("frames taken", x.count(4), 0);
        Due.is("undo of thing", x.undo(), 0);
        Due.is("things", x.count(0), 0);
        Due.is("undo once more", x.undo(), IMPOSSIBLE);
    }

    private static void type() {
        Due.sentence("## Promise 30: type\n\n`int type(int character)`: Appends a character to the text.");
        RowVotes x = new RowVotes();
        for (int far : FAR) {
            Due.is("type(" + far + ")", x.type(far), INVALID);
        }
        for (int length = 1; length <= 80; length++) {
            Due.is("type, the length then", x.type(length % 2 == 1 ? 's' : ';'), length);
        }
        Due.is("type, the text is full", x.type('s'), LIMIT);
        Due.is("type(127), the text is full", x.type(127), INVALID);
        Due.is("type(31), the text is full", x.type(31), INVALID);
        Due.is("its length", x.count(7), 80);
        Due.is("40 orders", x.play(), 40);
        Due.is("frames taken", x.count(4), 40);
    }

    private static void clearText() {
        Due.sentence("## Promise 31: clearText\n\n`int clearText()`: Empties the text.\n\nReturns the length it had.");
        RowVotes x = new RowVotes();
        Due.is("of an empty one", x.clearText(), 0);
        Cameras.write(x, "g1;x");
        Due.is("of one with 4 characters", x.clearText(), 4);
        Due.is("its length then", x.count(7), 0);
        Due.is("the fault is gone", x.fault(0), NONE);
        x.type('s');
        Due.is("the next character is its first one", x.fault(0), 0);
        Due.is("the order is too short", x.fault(2), 1);
        Due.is("nothing was a change", x.count(6), 0);
    }

    private static void fault() {
        Due.sentence("## Promise 32: fault\n\n`int fault(int what)`: Tells about the fault of the text.");
        String[] texts = {"", "s;", "s", "s;g9,;", "s;g0;", "s;u0;", "g1;t1,0,0,0,50,0;"};
        int[][] due = {{NONE, NONE, NONE}, {NONE, NONE, NONE}, {0, 1, 1}, {2, 1, 2}, {2, 2, 0}, {2, 3, NONE}, {3, 2, 1}};
        for (int i = 0; i < texts.length; i++) {
            RowVotes x = new RowVotes();
            Cameras.write(x, texts[i]);
            for (int what = 0; what <= 2; what++) {
                Due.is("fault(" + what + ") of \"" + texts[i] + "\"", x.fault(what), due[i][what]);
            }
            Due.is("fault(3) of \"" + texts[i] + "\"", x.fault(3), INVALID);
            for (int far : FAR) {
                Due.is("fault(" + far + ") of \"" + texts[i] + "\"", x.fault(far), INVALID);
            }
        }
    }

    private static void play() {
        Due.sentence("## Promise 33: play\n\n`int play()`: Does all orders of the text, which stays. They are one change, also if "
            + "there are none.");
        RowVotes x = new RowVotes();
        Due.is("none", x.play(), 0);
        Due.is("one change", x.count(6), 1);
        Cameras.write(x, "t0,5,0,100,100,200;s;g3;s;b5;");
        Due.is("five", x.play(), 5);
        Due.is("one change more", x.count(6), 2);
        Due.is("the shift that is told", x.shift(0, 1), 3);
        Due.is("the text stays", x.count(7), 29);
        Due.is("row 5 is blinded already", x.play(), IMPOSSIBLE);
        Due.is("nothing is done", x.count(4), 2);
        Due.is("undo of all five", x.undo(), 1);
        Due.is("things", x.count(0), 0);
        Due.is("play again", x.play(), 5);
    }
}
