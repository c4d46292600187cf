import java.util.Random;

/**
 * No call throws or fails to end, for any arguments in any state: long runs, far beyond 512 calls, with arguments that
 * are right, near to their ranges or anything, and texts of orders that are right, broken or anything.
 */
public final class AnyStateTest {
    private static final int RUNS = 200;
    private static final int CALLS = 6000;
    private static final int CALLS_OF_THE_FACE = 32;
    private static final int[] NOTABLE = {Integer.MIN_VALUE, Integer.MIN_VALUE + 1, -20001, -20000, -201, -200, -101, -9, -8,
        -1, 0, 1, 2, 7, 8, 9, 10, 15, 16, 31, 32, 40, 50, 80, 126, 127, 200, 201, 255, 256, 1600, 1601, 20000, 20001,
        Integer.MAX_VALUE - 1, Integer.MAX_VALUE, RowVotes.INVALID_ARGUMENT, RowVotes.NOT_FOUND};
    private static final String SIGNS = "tgsbu0123456789,;-";
    private static final String[] ORDERS = {"s;", "g7;", "g200;", "b3;", "u3;", "b9;", "u9;", "t0,9,-300,40,250,200;",
        "t0,0,20000,200,1600,255;", "t2,5,300,-60,400,0;", "t00000,-0,-20000,-200,00050,00000;"};

    private static Random random = null;
    private static RowVotes x = null;

    public static void main(String[] args) {
        for (int run = 0; run < RUNS; run++) {
            random = new Random(run);
            x = new RowVotes();
            Due.is("run " + run + " ends well", run(), "");
        }
        Due.end();
    }

    /** What was thrown, or "". */
    private static String run() {
        for (int i = 1; i <= CALLS; i++) {
            int which = random.nextInt(CALLS_OF_THE_FACE);
            try {
                call(which);
                staysInRange();
            } catch (RuntimeException | StackOverflowError e) {
                return "call " + i + ", of number " + which + ", threw " + e;
            }
        }
        return "";
    }

    /** Whatever was called before, what is told of the camera stays in its range. */
    private static void staysInRange() {
        int[] most = {4, 5, 20000, 10, Integer.MAX_VALUE, 1, 4, 80};
        for (int what = 0; what < most.length; what++) {
            if (x.count(what) < 0 || x.count(what) > most[what]) {
                throw new IllegalStateException("count(" + what + ") is " + x.count(what));
            }
        }
    }

    private static int any(int least, int most) {
        int kind = random.nextInt(20);
        if (kind == 0) {
            return NOTABLE[random.nextInt(NOTABLE.length)];
        }
        if (kind == 1) {
            return random.nextInt();
        }
        if (kind == 2) {
            return random.nextBoolean() ? least - 1 : most + 1;
        }
        return least + random.nextInt(most - least + 1);
    }

    private static int frame() {
        return any(0, 4);
    }

    private static int row() {
        return any(0, 9);
    }

    private static void write() {
        if (random.nextBoolean()) {
            x.clearText();
        }
        StringBuilder text = new StringBuilder();
        for (int i = random.nextInt(8); i > 0; i--) {
            text.append(ORDERS[random.nextInt(ORDERS.length)]);
        }
        for (int i = random.nextInt(3); i > 0; i--) {
            text.insert(random.nextInt(text.length() + 1), SIGNS.charAt(random.nextInt(SIGNS.length())));
        }
        for (int i = 0; i < text.length(); i++) {
            x.type(text.charAt(i));
        }
    }

    private static int call(int which) {
        switch (which) {
            case 0: return x.set(any(0, 7), any(0, 20));
            case 1: return x.thing(any(0, 3), any(3, 9), any(-20000, 20000), any(-200, 200), any(50, 1600), any(0, 255));
            case 2: return x.turn(any(0, 3), any(-200, 200));
            case 3: return x.thingOf(any(0, 3), any(0, 6));
            case 4: return x.blind(row(), any(0, 1));
            case 5: return x.shows(row(), any(0, 15), any(0, 20000));
            case 6: return x.shoot();
            case 7: return random.nextInt(4) == 0 ? x.forget(frame()) : x.shoot();
            case 8: return x.frameOf(frame(), any(0, 2));
            case 9: return x.pixel(frame(), row(), any(0, 15));
            case 10: return x.edges(frame(), row());
            case 11: return x.pass(random.nextBoolean() ? any(1, 200) : any(1, 9));
            case 12: return x.vote(frame(), frame(), row());
            case 13: return x.shift(frame(), frame());
            case 14: return x.voters(frame(), frame(), any(-8, 8));
            case 15: return x.dissent(frame(), frame());
            case 16: return x.speed(frame(), frame());
            case 17: return x.slant(frame());
            case 18: return x.slantSpeed(frame());
            case 19: return x.weighed(frame(), frame());
            case 20: return x.judge(frame(), frame());
            case 21: return x.rowOf(row(), any(0, 3));
            case 22: return x.bestWait(frame(), any(0, 1));
            case 23: return x.motions(any(0, 3), any(0, 4));
            case 24: return x.periods();
            case 25: return x.fitting(frame());
            case 26: return x.count(any(0, 17));
            case 27: return x.undo();
            case 28:
                write();
                return x.type(any(32, 126));
            case 29: return x.clearText();
            case 30: return x.fault(any(0, 2));
            default: return x.play();
        }
    }
}
