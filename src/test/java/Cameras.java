/** Cameras that the tests of boundary cases begin with, and what they do with them more than once. */
final class Cameras {
    static final int INVALID = -10000001;
    static final int IMPOSSIBLE = -10000002;
    static final int LIMIT = -10000003;
    static final int NONE = -10000004;

    private Cameras() {
    }

    static RowVotes of(int rows, int columns, int delay) {
        RowVotes x = new RowVotes();
        x.set(0, rows);
        x.set(1, columns);
        x.set(2, delay);
        return x;
    }

    /** Adds a thing that has one edge in sight, at its left side: it goes on beyond the last column. */
    static void edge(RowVotes x, int top, int bottom, int column, int speed) {
        x.thing(top, bottom, 100 * column, speed, 1600, 200);
    }

    /**
     * Two frames, 10 ticks apart, each of all rows at once, of 16 columns. An edge is told by its top row, its bottom
     * row, its column in the first frame and its column in the second one.
     */
    static RowVotes edges(int rows, int[]... edges) {
        RowVotes x = of(rows, 16, 0);
        for (int[] e : edges) {
            edge(x, e[0], e[1], e[2], 10 * (e[3] - e[2]));
        }
        x.shoot();
        x.pass(10);
        x.shoot();
        return x;
    }

    static void passTo(RowVotes x, int time) {
        int left = time - x.count(2);
        while (left > 0) {
            int ticks = Math.min(200, left);
            x.pass(ticks);
            left -= ticks;
        }
    }

    static void write(RowVotes x, String text) {
        x.clearText();
        for (int i = 0; i < text.length(); i++) {
            x.type(text.charAt(i));
        }
    }

    static void lamp(RowVotes x, int period, int darkTicks, int dim) {
        x.set(5, period);
        x.set(6, darkTicks);
        x.set(7, dim);
    }
}
