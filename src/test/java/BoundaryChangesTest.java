import java.util.function.ToIntFunction;

/** Boundary cases of the history, of undo and of errors, promise 29 and all that change: each sentence has its own test. */
public final class BoundaryChangesTest {
    /** A call that returns an error in the full camera. */
    private static final class Refused {
        final String call;
        final ToIntFunction<RowVotes> made;
        final int due;

        Refused(String call, ToIntFunction<RowVotes> made, int due) {
            this.call = call;
            this.made = made;
            this.due = due;
        }
    }

    private static final String[] CHANGES = {"set", "thing", "turn", "blind", "shoot", "forget", "pass", "judge", "play"};

    public static void main(String[] args) {
        whatChanges();
        whatDoesNotChange();
        changesToTheSame();
        emptyHistory();
        fourStates();
        oldestIsDropped();
        undoAfterUndo();
        undoBringsBack();
        undoOfEachSetting();
        undoOfASixthFrame();
        undoOfEachPixel();
        undoOfEachRow();
        undoLeavesTheText();
        statesKeepTheirOwn();
        invalidRatherThanNotPossible();
        invalidRatherThanLimit();
        notPossibleRatherThanNotFound();
        invalidRatherThanNotFound();
        errorsChangeNothing();
        errorsOfNewCamera();
        noSuchNumber();
        theConstants();
        Due.end();
    }

    /** A camera with something of everything: two things, three frames, blinded and judged rows, and a text. */
    private static RowVotes full() {
        RowVotes x = Cameras.of(3, 8, 1);
        x.thing(0, 1, 200, 100, 1600, 200);
        x.thing(2, 9, 200, 200, 1600, 90);
        x.shoot();
        x.pass(1);
        x.shoot();
        x.judge(0, 1);
        x.blind(2, 1);
        x.blind(7, 1);
        Cameras.lamp(x, 9, 1, 40);
        x.shoot();
        Cameras.write(x, "s;g3;b0;s;");
        return x;
    }

    /** All that can be seen of a camera but its history and its text; some 150 calls for the full camera. */
    private static String scene(RowVotes x) {
        StringBuilder seen = new StringBuilder();
        for (int what = 0; what <= 17; what++) {
            seen.append(what == 6 || what == 7 ? 0 : x.count(what)).append(' ');
        }
        for (int thing = 0; thing < x.count(0); thing++) {
            for (int what = 0; what <= 6; what++) {
                seen.append(x.thingOf(thing, what)).append(' ');
            }
        }
        for (int row = 0; row <= 9; row++) {
            for (int what = 0; what <= 2; what++) {
                seen.append(x.rowOf(row, what)).append(' ');
            }
        }
        for (int frame = 0; frame < x.count(1); frame++) {
            seen.append(x.frameOf(frame, 0)).append(' ').append(x.frameOf(frame, 1)).append(' ');
            for (int row = 0; row < x.count(10); row++) {
                seen.append(x.edges(frame, row)).append(' ').append(x.pixel(frame, row, 5)).append(' ');
            }
        }
        return seen.append(x.shows(0, 2, 0)).toString();
    }

    /** What can be seen of the history and of the text. */
    private static String rest(RowVotes x) {
        return x.count(6) + " " + x.count(7) + " " + x.fault(0) + " " + x.fault(1) + " " + x.fault(2);
    }

    /** Makes one of the changes in the full camera. */
    private static int change(RowVotes x, String which) {
        switch (which) {
            case "set": return x.set(4, 33);
            case "thing": return x.thing(0, 9, 0, 0, 100, 5);
            case "turn": return x.turn(1, -50);
            case "blind": return x.blind(0, 1);
            case "shoot": return x.shoot();
            case "forget": return x.forget(1);
            case "pass": return x.pass(9);
            case "judge": return x.judge(0, 1);
            default: return x.play();
        }
    }

    private static void whatChanges() {
        Due.sentence("The changes are the calls of set, thing, turn, blind, shoot, forget, pass, judge and play that return no error.");
        for (String which : CHANGES) {
            RowVotes x = full();
            while (x.count(6) > 0) {
                x.undo();
            }
            // what is left then is a camera before its last four changes: all calls are still possible in it
            Due.is("states before " + which, x.count(6), 0);
            Due.is(which + " returns an error", change(x, which) < -10000000 ? 1 : 0, 0);
            Due.is("states behind " + which, x.count(6), 1);
            Due.is("undo of " + which, x.undo(), 0);
        }
    }

    private static void whatDoesNotChange() {
        Due.sentence("The changes are the calls of set, thing, turn, blind, shoot, forget, pass, judge and play");
        RowVotes x = full();
        x.undo();
        x.undo();
        Due.is("states", x.count(6), 2);
        int sum = x.thingOf(0, 0) + x.shows(0, 0, 0) + x.frameOf(0, 0) + x.pixel(0, 0, 0) + x.edges(0, 0) + x.vote(0, 1, 0)
            + x.shift(0, 1) + x.voters(0, 1, 0) + x.dissent(0, 1) + x.speed(0, 1) + x.slant(0) + x.slantSpeed(0)
            + x.weighed(0, 1) + x.rowOf(0, 0) + x.bestWait(0, 0) + x.motions(0, 0) + x.periods() + x.fitting(0)
            + x.count(0) + x.type('s') + x.fault(0) + x.clearText();
        Due.is("states behind all other calls: " + sum, x.count(6), 2);
        Due.is("undo is none either", x.undo(), 1);
        Due.is("states", x.count(6), 1);
    }

    private static void changesToTheSame() {
        Due.sentence("each change records everything before it but the text");
        RowVotes x = new RowVotes();
        x.thing(0, 9, 0, 7, 100, 200);
        x.undo();
        x.thing(0, 9, 0, 7, 100, 200);
        Due.is("set to what it was", x.set(3, 40), 40);
        Due.is("states", x.count(6), 2);
        Due.is("turned to the speed that it has", x.turn(0, 7), 7);
        Due.is("states", x.count(6), 3);
        Due.is("play without orders", x.play(), 0);
        Due.is("states", x.count(6), 4);
        Due.is("undo", x.undo(), 3);
        Due.is("undo", x.undo(), 2);
        Due.is("undo", x.undo(), 1);
        Due.is("the thing is still there", x.count(0), 1);
        Due.is("undo", x.undo(), 0);
        Due.is("the thing is gone", x.count(0), 0);
    }

    private static void emptyHistory() {
        Due.sentence("Returns the number of states that are left in the history; NOT_POSSIBLE if it is empty.");
        RowVotes x = new RowVotes();
        Due.is("at first", x.undo(), Cameras.IMPOSSIBLE);
        x.pass(1);
        Due.is("one state", x.undo(), 0);
        Due.is("none any more", x.undo(), Cameras.IMPOSSIBLE);
        Due.is("none still", x.undo(), Cameras.IMPOSSIBLE);
        Due.is("the time", x.count(2), 0);
        Due.is("states", x.count(6), 0);
        x.pass(2);
        x.pass(2);
        Due.is("two states", x.undo(), 1);
        Due.is("one state", x.undo(), 0);
        Due.is("none", x.undo(), Cameras.IMPOSSIBLE);
        x.pass(0);
        Due.is("none by a call that returns an error", x.undo(), Cameras.IMPOSSIBLE);
    }

    private static void fourStates() {
        Due.sentence("A history of at most 4 states is kept: each change records everything before it but the text, "
            + "and if there are 5 states then, the oldest one is dropped.");
        for (int changes = 0; changes <= 9; changes++) {
            RowVotes x = new RowVotes();
            for (int i = 1; i <= changes; i++) {
                x.pass(i);
                Due.is("states behind " + i, x.count(6), Math.min(4, i));
            }
            int kept = Math.min(4, changes);
            int time = x.count(2);
            for (int i = 0; i < kept; i++) {
                Due.is("undo of " + changes, x.undo(), kept - 1 - i);
                time -= changes - i;
                Due.is("the time then", x.count(2), time);
            }
            Due.is("nothing is left of " + changes, x.undo(), Cameras.IMPOSSIBLE);
            Due.is("the time at last", x.count(2), time);
        }
    }

    /** Five changes of different things: the first one stays, whatever is undone. */
    private static void oldestIsDropped() {
        Due.sentence("if there are 5 states then, the oldest one is dropped.");
        RowVotes x = new RowVotes();
        x.thing(0, 9, 0, 0, 100, 200);
        x.set(4, 30);
        x.blind(3, 1);
        x.shoot();
        Due.is("four states", x.count(6), 4);
        x.pass(5);
        Due.is("four states still", x.count(6), 4);
        Due.is("undo pass", x.undo(), 3);
        Due.is("the time", x.count(2), 0);
        Due.is("undo shoot", x.undo(), 2);
        Due.is("frames", x.count(1), 0);
        Due.is("undo blind", x.undo(), 1);
        Due.is("blinded rows", x.count(3), 0);
        Due.is("undo set", x.undo(), 0);
        Due.is("the ground", x.count(14), 20);
        Due.is("no more", x.undo(), Cameras.IMPOSSIBLE);
        Due.is("the thing stays", x.count(0), 1);
    }

    private static void undoAfterUndo() {
        Due.sentence("Restores the latest state of the history, which is removed from it.");
        RowVotes x = new RowVotes();
        x.pass(1);
        x.pass(10);
        x.pass(100);
        Due.is("undo", x.undo(), 2);
        Due.is("the time", x.count(2), 11);
        x.pass(50);
        Due.is("states", x.count(6), 3);
        Due.is("undo", x.undo(), 2);
        Due.is("the time", x.count(2), 11);
        Due.is("undo", x.undo(), 1);
        Due.is("the time", x.count(2), 1);
        x.pass(20);
        x.pass(20);
        x.pass(20);
        x.pass(20);
        Due.is("states", x.count(6), 4);
        for (int i = 3; i >= 0; i--) {
            Due.is("undo", x.undo(), i);
            Due.is("the time", x.count(2), 1 + 20 * i);
        }
        Due.is("undo", x.undo(), Cameras.IMPOSSIBLE);
    }

    private static void undoBringsBack() {
        Due.sentence("each change records everything before it but the text");
        for (String which : CHANGES) {
            RowVotes x = full();
            String before = scene(x);
            Due.is(which + " returns an error", change(x, which) < -10000000 ? 1 : 0, 0);
            String behind = scene(x);
            Due.is(which + " is seen", behind.equals(before) ? 0 : 1, 1);
            x.undo();
            Due.is("undo of " + which, scene(x), before);
        }
    }

    private static void undoOfASixthFrame() {
        Due.sentence("each change records everything before it but the text");
        RowVotes x = full();
        x.shoot();
        x.shoot();
        String before = scene(x);
        Due.is("a sixth frame", x.shoot(), 5);
        x.undo();
        Due.is("undo of a sixth frame", scene(x), before);
        Due.is("play that takes two", x.play(), 4);
        x.undo();
        Due.is("undo of play", scene(x), before);
    }

    private static void undoOfEachSetting() {
        Due.sentence("Restores the latest state of the history");
        int[] first = {6, 12, 1, 40, 20, 0, 0, 50};
        RowVotes x = new RowVotes();
        for (int what = 0; what <= 7; what++) {
            x.set(what, 7);
            x.set(what, 8);
            Due.is("the setting " + what, x.count(10 + what), 8);
            x.undo();
            Due.is("the setting " + what + " before", x.count(10 + what), 7);
            x.undo();
            Due.is("the setting " + what + " at first", x.count(10 + what), first[what]);
        }
    }

    /** Five frames, each with another ground; a sixth one takes the place of the first one, until it is undone. */
    private static void undoOfEachPixel() {
        Due.sentence("each change records everything before it");
        int[][] sizes = {{2, 4}, {1, 16}, {10, 4}};
        for (int[] size : sizes) {
            RowVotes x = Cameras.of(size[0], size[1], 0);
            for (int frame = 0; frame < 5; frame++) {
                x.set(4, 100 + frame);
                x.shoot();
            }
            x.set(4, 200);
            x.shoot();
            x.forget(2);
            x.shoot();
            x.undo();
            x.undo();
            x.undo();
            for (int frame = 0; frame < 5; frame++) {
                for (int row = 0; row < size[0]; row++) {
                    for (int column = 0; column < size[1]; column++) {
                        String pixel = "pixel(" + frame + ", " + row + ", " + column + ")";
                        Due.is(pixel, x.pixel(frame, row, column), 100 + frame);
                    }
                }
            }
        }
    }

    /** The rows 0 to 5 agree, the rows 6 to 9 dissent. */
    private static void undoOfEachRow() {
        Due.sentence("each change records everything before it");
        RowVotes x = Cameras.edges(10, new int[] {0, 5, 5, 6}, new int[] {6, 9, 5, 7});
        x.judge(0, 1);
        x.judge(0, 1);
        x.judge(0, 1);
        for (int times = 2; times >= 0; times--) {
            x.undo();
            for (int row = 0; row <= 9; row++) {
                Due.is("row " + row + " agreed", x.rowOf(row, 1), row <= 5 ? times : 0);
                Due.is("row " + row + " dissented", x.rowOf(row, 2), row <= 5 ? 0 : times);
            }
        }
        for (int row = 0; row <= 9; row++) {
            x.blind(row, 1);
            Due.is("row " + row + " is blinded", x.rowOf(row, 0), 1);
            x.undo();
            Due.is("row " + row + " is not", x.rowOf(row, 0), 0);
        }
    }

    private static void undoLeavesTheText() {
        Due.sentence("everything before it but the text");
        RowVotes x = new RowVotes();
        Cameras.write(x, "s;");
        x.pass(1);
        x.type('g');
        x.undo();
        Due.is("its length", x.count(7), 3);
        Due.is("its fault", x.fault(0), 2);
        x.pass(1);
        x.clearText();
        x.undo();
        Due.is("a text that was emptied", x.count(7), 0);
        Due.is("no fault in it", x.fault(0), Cameras.NONE);
        Cameras.write(x, "g5;s;");
        x.play();
        x.undo();
        Due.is("a text that was played", x.count(7), 5);
        Due.is("played once more", x.play(), 2);
        Due.is("the time", x.count(2), 5);
    }

    /** A state of the history has nothing to do with what is done behind it. */
    private static void statesKeepTheirOwn() {
        Due.sentence("each change records everything before it");
        RowVotes x = full();
        String first = scene(x);
        x.turn(0, 3);
        String second = scene(x);
        x.forget(0);
        x.set(3, 200);
        x.shoot();
        x.undo();
        x.undo();
        x.undo();
        Due.is("the second state", scene(x), second);
        x.undo();
        Due.is("the first state", scene(x), first);
        Due.is("states", x.count(6), 0);
    }

    private static void invalidRatherThanNotPossible() {
        Due.sentence("If several errors apply to a call, INVALID_ARGUMENT is returned rather than NOT_POSSIBLE,");
        RowVotes x = full();
        Due.is("set, frames are kept", x.set(0, 5), Cameras.IMPOSSIBLE);
        Due.is("set, frames are kept, 0 rows", x.set(0, 0), Cameras.INVALID);
        Due.is("set, frames are kept, 11 rows", x.set(0, 11), Cameras.INVALID);
        Due.is("set, frames are kept, 3 columns", x.set(1, 3), Cameras.INVALID);
        Due.is("set, frames are kept, a delay of 10", x.set(2, 10), Cameras.INVALID);
        Due.is("set, frames are kept, the setting -1", x.set(-1, 5), Cameras.INVALID);
        Due.is("blind, it is so", x.blind(7, 1), Cameras.IMPOSSIBLE);
        Due.is("blind, 2", x.blind(7, 2), Cameras.INVALID);
        Due.is("blind no more, row 10", x.blind(10, 0), Cameras.INVALID);
        Due.is("blind no more, row -1", x.blind(-1, 0), Cameras.INVALID);
        x.shoot();
        Due.is("speed, the same time", x.speed(2, 3), Cameras.IMPOSSIBLE);
        Due.is("speed, the same frame", x.speed(3, 3), Cameras.INVALID);
        Due.is("speed, no such frame", x.speed(3, 4), Cameras.INVALID);
        RowVotes y = Cameras.of(2, 8, 0);
        y.shoot();
        Due.is("slantSpeed, delay 0", y.slantSpeed(0), Cameras.IMPOSSIBLE);
        Due.is("slantSpeed, delay 0, no such frame", y.slantSpeed(1), Cameras.INVALID);
    }

    private static void invalidRatherThanLimit() {
        Due.sentence("NOT_POSSIBLE rather than LIMIT_REACHED, and LIMIT_REACHED rather than NOT_FOUND.");
        RowVotes x = full();
        x.thing(0, 9, 0, 0, 100, 200);
        x.thing(0, 9, 0, 0, 100, 200);
        Due.is("thing, four", x.thing(0, 9, 0, 0, 100, 200), Cameras.LIMIT);
        Due.is("thing, four, bottom above top", x.thing(1, 0, 0, 0, 100, 200), Cameras.INVALID);
        Due.is("thing, four, brightness 256", x.thing(0, 9, 0, 0, 100, 256), Cameras.INVALID);
        Cameras.passTo(x, 20000);
        Due.is("pass, at the end", x.pass(1), Cameras.LIMIT);
        Due.is("pass, at the end, no ticks", x.pass(0), Cameras.INVALID);
        Due.is("pass, at the end, 201 ticks", x.pass(201), Cameras.INVALID);
        Due.is("pass, at the end, -1 ticks", x.pass(-1), Cameras.INVALID);
        while (x.count(7) < 80) {
            x.type('s');
        }
        Due.is("type, 80 characters", x.type(';'), Cameras.LIMIT);
        Due.is("type, 80 characters, 31", x.type(31), Cameras.INVALID);
        Due.is("type, 80 characters, 127", x.type(127), Cameras.INVALID);
    }

    private static void notPossibleRatherThanNotFound() {
        Due.sentence("NOT_POSSIBLE rather than LIMIT_REACHED, and LIMIT_REACHED rather than NOT_FOUND.");
        RowVotes x = full();
        x.shoot();
        Due.is("speed, a shift is told", x.speed(0, 1) == Cameras.NONE ? 1 : 0, 0);
        x.set(3, 255);
        Due.is("speed, none is told", x.speed(0, 1), Cameras.NONE);
        Due.is("speed, none is told, the same time", x.speed(2, 3), Cameras.IMPOSSIBLE);
        Due.is("slantSpeed, none is told", x.slantSpeed(0), Cameras.NONE);
        RowVotes y = Cameras.of(2, 8, 0);
        y.shoot();
        Due.is("slant, none is told", y.slant(0), Cameras.NONE);
        Due.is("slantSpeed, none is told, delay 0", y.slantSpeed(0), Cameras.IMPOSSIBLE);
    }

    private static void invalidRatherThanNotFound() {
        Due.sentence("INVALID_ARGUMENT is returned rather than NOT_POSSIBLE, NOT_POSSIBLE rather than LIMIT_REACHED, "
            + "and LIMIT_REACHED rather than NOT_FOUND.");
        RowVotes x = full();
        x.set(3, 255);
        x.set(4, 77);
        Due.is("pixel", x.pixel(2, 2, 0), Cameras.NONE);
        Due.is("pixel, column 8", x.pixel(2, 2, 8), Cameras.INVALID);
        Due.is("edges", x.edges(2, 2), Cameras.NONE);
        Due.is("edges, frame 3", x.edges(3, 2), Cameras.INVALID);
        Due.is("vote", x.vote(0, 1, 0), Cameras.NONE);
        Due.is("vote, row 3", x.vote(0, 1, 3), Cameras.INVALID);
        Due.is("shift", x.shift(0, 1), Cameras.NONE);
        Due.is("shift, frame 3", x.shift(0, 3), Cameras.INVALID);
        Due.is("dissent", x.dissent(0, 1), Cameras.NONE);
        Due.is("dissent, the same frame", x.dissent(1, 1), Cameras.INVALID);
        Due.is("slant", x.slant(0), Cameras.NONE);
        Due.is("slant, frame 3", x.slant(3), Cameras.INVALID);
        Due.is("weighed", x.weighed(0, 1), Cameras.NONE);
        Due.is("weighed, the same frame", x.weighed(1, 1), Cameras.INVALID);
        Due.is("judge", x.judge(0, 1), Cameras.NONE);
        Due.is("judge, the same frame", x.judge(1, 1), Cameras.INVALID);
        Due.is("bestWait", x.bestWait(0, 0), Cameras.NONE);
        Due.is("bestWait, 2", x.bestWait(0, 2), Cameras.INVALID);
        Due.is("motions", x.motions(0, 1), Cameras.NONE);
        Due.is("motions, 5", x.motions(0, 5), Cameras.INVALID);
        Due.is("motions, thing 2", x.motions(2, 1), Cameras.INVALID);
        Due.is("fault", x.fault(0), Cameras.NONE);
        Due.is("fault, 3", x.fault(3), Cameras.INVALID);
    }

    /** Errors of all calls that return some, each in the full camera. */
    private static Refused[] refused() {
        return new Refused[] {
            new Refused("set(8, 0)", x -> x.set(8, 0), Cameras.INVALID),
            new Refused("set(3, 256)", x -> x.set(3, 256), Cameras.INVALID),
            new Refused("set(0, 6)", x -> x.set(0, 6), Cameras.IMPOSSIBLE),
            new Refused("thing, width 49", x -> x.thing(0, 9, 0, 0, 49, 0), Cameras.INVALID),
            new Refused("turn(2, 5)", x -> x.turn(2, 5), Cameras.INVALID),
            new Refused("turn(0, 201)", x -> x.turn(0, 201), Cameras.INVALID),
            new Refused("thingOf(0, 7)", x -> x.thingOf(0, 7), Cameras.INVALID),
            new Refused("blind(10, 1)", x -> x.blind(10, 1), Cameras.INVALID),
            new Refused("blind(2, 1)", x -> x.blind(2, 1), Cameras.IMPOSSIBLE),
            new Refused("blind(1, 0)", x -> x.blind(1, 0), Cameras.IMPOSSIBLE),
            new Refused("shows(3, 0, 0)", x -> x.shows(3, 0, 0), Cameras.INVALID),
            new Refused("forget(3)", x -> x.forget(3), Cameras.INVALID),
            new Refused("frameOf(0, 3)", x -> x.frameOf(0, 3), Cameras.INVALID),
            new Refused("pixel(2, 2, 0)", x -> x.pixel(2, 2, 0), Cameras.NONE),
            new Refused("edges(2, 2)", x -> x.edges(2, 2), Cameras.NONE),
            new Refused("pass(201)", x -> x.pass(201), Cameras.INVALID),
            new Refused("vote(0, 2, 2)", x -> x.vote(0, 2, 2), Cameras.NONE),
            new Refused("shift(1, 1)", x -> x.shift(1, 1), Cameras.INVALID),
            new Refused("voters(0, 1, 9)", x -> x.voters(0, 1, 9), Cameras.INVALID),
            new Refused("dissent(0, 3)", x -> x.dissent(0, 3), Cameras.INVALID),
            new Refused("speed(1, 2)", x -> x.speed(1, 2), Cameras.IMPOSSIBLE),
            new Refused("slant(3)", x -> x.slant(3), Cameras.INVALID),
            new Refused("slantSpeed(3)", x -> x.slantSpeed(3), Cameras.INVALID),
            new Refused("weighed(2, 2)", x -> x.weighed(2, 2), Cameras.INVALID),
            new Refused("judge(0, 0)", x -> x.judge(0, 0), Cameras.INVALID),
            new Refused("judge(-1, 0)", x -> x.judge(-1, 0), Cameras.INVALID),
            new Refused("rowOf(10, 0)", x -> x.rowOf(10, 0), Cameras.INVALID),
            new Refused("bestWait(0, 2)", x -> x.bestWait(0, 2), Cameras.INVALID),
            new Refused("motions(0, 5)", x -> x.motions(0, 5), Cameras.INVALID),
            new Refused("fitting(3)", x -> x.fitting(3), Cameras.INVALID),
            new Refused("count(8)", x -> x.count(8), Cameras.INVALID),
            new Refused("type(31)", x -> x.type(31), Cameras.INVALID),
            new Refused("type(127)", x -> x.type(127), Cameras.INVALID),
            new Refused("fault(3)", x -> x.fault(3), Cameras.INVALID),
            new Refused("fault(0)", x -> x.fault(0), Cameras.NONE)};
    }

    private static void errorsChangeNothing() {
        Due.sentence("A call that returns an error changes nothing.");
        RowVotes untouched = full();
        String scene = scene(untouched);
        String rest = rest(untouched);
        for (Refused each : refused()) {
            RowVotes x = full();
            Due.is(each.call, each.made.applyAsInt(x), each.due);
            Due.is("the scene behind " + each.call, scene(x), scene);
            Due.is("history and text behind " + each.call, rest(x), rest);
        }
        playAndJudgeChangeNothing();
        limitsChangeNothing();
    }

    private static void playAndJudgeChangeNothing() {
        String[] wrong = {"s;g3;s;b7;", "t0,9,0,0,100,200;g0;", "u2;b2;x"};
        for (String text : wrong) {
            RowVotes x = full();
            Cameras.write(x, text);
            String scene = scene(x);
            String rest = rest(x);
            Due.is("play of " + text, x.play(), Cameras.IMPOSSIBLE);
            Due.is("the scene behind " + text, scene(x), scene);
            Due.is("history and text behind " + text, rest(x), rest);
        }
        RowVotes x = full();
        x.set(3, 255);
        String scene = scene(x);
        String rest = rest(x);
        Due.is("judge, none is told", x.judge(0, 1), Cameras.NONE);
        Due.is("the scene behind judge", scene(x), scene);
        Due.is("history and text behind judge", rest(x), rest);
    }

    private static void limitsChangeNothing() {
        RowVotes x = full();
        x.thing(0, 9, 0, 0, 100, 200);
        x.thing(0, 9, 0, 0, 100, 200);
        Cameras.passTo(x, 19999);
        String scene = scene(x);
        String rest = rest(x);
        Due.is("a fifth thing", x.thing(0, 9, 0, 0, 100, 1), Cameras.LIMIT);
        Due.is("two ticks more", x.pass(2), Cameras.LIMIT);
        Due.is("the scene behind limits", scene(x), scene);
        Due.is("history and text behind limits", rest(x), rest);
        x = full();
        while (x.count(7) < 80) {
            x.type('s');
        }
        rest = rest(x);
        Due.is("character 81", x.type(';'), Cameras.LIMIT);
        Due.is("history and text behind a full text", rest(x), rest);
    }

    private static void errorsOfNewCamera() {
        Due.sentence("A call that returns an error changes nothing.");
        RowVotes x = new RowVotes();
        String scene = scene(x);
        Due.is("turn", x.turn(0, 0), Cameras.INVALID);
        Due.is("blind", x.blind(0, 0), Cameras.IMPOSSIBLE);
        Due.is("forget", x.forget(0), Cameras.INVALID);
        Due.is("judge", x.judge(0, 1), Cameras.INVALID);
        Due.is("undo", x.undo(), Cameras.IMPOSSIBLE);
        Due.is("slantSpeed", x.slantSpeed(0), Cameras.INVALID);
        Due.is("fault", x.fault(0), Cameras.NONE);
        Due.is("the scene", scene(x), scene);
        Due.is("states", x.count(6), 0);
    }

    private static void noSuchNumber() {
        Due.sentence("If there is no thing, row, column or frame with a certain number, this is INVALID_ARGUMENT.");
        RowVotes x = full();
        Due.is("thing 1", x.thingOf(1, 0), 2);
        Due.is("thing 2", x.thingOf(2, 0), Cameras.INVALID);
        Due.is("thing -1", x.thingOf(-1, 0), Cameras.INVALID);
        Due.is("row 2, column 7", x.shows(2, 7, 1), 90);
        Due.is("row 3", x.shows(3, 7, 1), Cameras.INVALID);
        Due.is("column 8", x.shows(2, 8, 1), Cameras.INVALID);
        Due.is("frame 2", x.frameOf(2, 0), 1);
        Due.is("frame 3", x.frameOf(3, 0), Cameras.INVALID);
        Due.is("a row that may be blinded", x.rowOf(9, 0), 0);
        Due.is("a row that may not be blinded", x.rowOf(10, 0), Cameras.INVALID);
    }

    private static void theConstants() {
        Due.sentence("`INVALID_ARGUMENT = -10000001`: An argument is out of its range, or there is no such thing, row, column or frame.");
        Due.is("INVALID_ARGUMENT", RowVotes.INVALID_ARGUMENT, -10000001);
        Due.is("NOT_POSSIBLE", RowVotes.NOT_POSSIBLE, -10000002);
        Due.is("LIMIT_REACHED", RowVotes.LIMIT_REACHED, -10000003);
        Due.is("NOT_FOUND", RowVotes.NOT_FOUND, -10000004);
    }
}
