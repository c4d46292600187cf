/**
 * A camera whose rows look one after the other, and vote on what has moved.
 *
 * All that a call needs is made in the constructors and used again, so no call makes an object.
 */
public final class RowVotes {
    public static final int INVALID_ARGUMENT = -10000001;
    public static final int NOT_POSSIBLE = -10000002;
    public static final int LIMIT_REACHED = -10000003;
    public static final int NOT_FOUND = -10000004;

    private static final int MOST_ROWS = 10;
    private static final int MOST_COLUMNS = 16;
    private static final int MOST_THINGS = 4;
    private static final int MOST_FRAMES = 5;
    private static final int MOST_STATES = 4;
    private static final int MOST_TIME = 20000;
    private static final int MOST_TICKS = 200;
    private static final int MOST_SPEED = 200;
    private static final int MOST_SHIFT = 8;
    private static final int MOST_WAIT = 40;
    private static final int MOST_PERIOD = 20;
    private static final int MOST_SIGNS = 80;
    private static final int MOST_DIGITS = 5;
    private static final int NUMBERS_OF_THING = 6;

    /** The numbers of the settings. */
    private static final int ROWS = 0;
    private static final int COLUMNS = 1;
    private static final int DELAY = 2;
    private static final int THRESHOLD = 3;
    private static final int GROUND = 4;
    private static final int PERIOD = 5;
    private static final int DARK_TICKS = 6;
    private static final int DIM = 7;

    private static final int[] LEAST_SETTINGS = {1, 4, 0, 1, 0, 0, 0, 0};
    private static final int[] MOST_SETTINGS = {10, 16, 9, 255, 255, 20, 20, 100};
    private static final int[] FIRST_SETTINGS = {6, 12, 1, 40, 20, 0, 0, 50};

    private static final int LEAST_TRIED_POSITION = -1000;
    private static final int MOST_TRIED_POSITION = 2400;
    private static final int POSITION_STEP = 100;
    private static final int MOST_TRIED_SPEED = 100;
    private static final int SPEED_STEP = 10;

    private static final int ALL_COLUMNS = (1 << MOST_COLUMNS) - 1;
    private static final int ALL_PERIODS = (1 << (MOST_PERIOD + 1)) - 1;
    private static final int NO_THING = -1;

    /** The reasons of faults. */
    private static final int SOUND = 0;
    private static final int BAD_FORM = 1;
    private static final int BAD_NUMBER = 2;
    private static final int REFUSED = 3;

    private final Scene now = new Scene();
    private final Scene[] history = new Scene[MOST_STATES];
    private int states = 0;
    private final Script script = new Script();
    private final Voting voting = new Voting();
    private final MotionSearch search = new MotionSearch();
    private final Frame trial = new Frame();
    private final int[] line = new int[MOST_COLUMNS];

    public RowVotes() {
        for (int i = 0; i < history.length; i++) {
            history[i] = new Scene();
        }
    }

    // ---- settings, things

    public int set(int what, int value) {
        if (!isWithin(what, 0, DIM)) {
            return INVALID_ARGUMENT;
        }
        if (!isWithin(value, numberIn(LEAST_SETTINGS, what), numberIn(MOST_SETTINGS, what))) {
            return INVALID_ARGUMENT;
        }
        if (what <= DELAY && now.frameCount > 0) {
            return NOT_POSSIBLE;
        }
        recordState();
        int before = now.setting(what);
        now.changeSetting(what, value);
        return before;
    }

    public int thing(int top, int bottom, int position, int speed, int width, int brightness) {
        if (wrongOfThing(top, bottom, position, speed, width, brightness) >= 0) {
            return INVALID_ARGUMENT;
        }
        if (now.thingCount >= MOST_THINGS) {
            return LIMIT_REACHED;
        }
        recordState();
        now.addThing(top, bottom, position, speed, width, brightness);
        return now.thingCount - 1;
    }

    public int turn(int thing, int speed) {
        Thing turned = now.thingAt(thing);
        if (turned == null || !isWithin(speed, -MOST_SPEED, MOST_SPEED)) {
            return INVALID_ARGUMENT;
        }
        recordState();
        int before = turned.speed;
        turned.changeSpeed(speed, now.time);
        return before;
    }

    public int thingOf(int thing, int what) {
        Thing asked = now.thingAt(thing);
        if (asked == null || !isWithin(what, 0, 6)) {
            return INVALID_ARGUMENT;
        }
        return what == 6 ? asked.positionAt(now.time) : asked.numberOf(what);
    }

    public int blind(int row, int is) {
        if (!isWithin(row, 0, MOST_ROWS - 1) || !isWithin(is, 0, 1)) {
            return INVALID_ARGUMENT;
        }
        if (holds(now.blinded, row) == (is == 1)) {
            return NOT_POSSIBLE;
        }
        recordState();
        now.blinded ^= 1 << row;
        return Integer.bitCount(now.blinded);
    }

    public int shows(int row, int column, int time) {
        if (!isPlace(row, column) || !isWithin(time, 0, MOST_TIME)) {
            return INVALID_ARGUMENT;
        }
        now.paint(row, time, NO_THING, 0, line);
        return dimmed(numberIn(line, column), now.percentAt(time));
    }

    // ---- frames

    public int shoot() {
        recordState();
        now.takeFrame(line);
        return now.frameCount;
    }

    public int forget(int frame) {
        if (now.frameAt(frame) == null) {
            return INVALID_ARGUMENT;
        }
        recordState();
        now.dropFrame(frame);
        return now.frameCount;
    }

    public int frameOf(int frame, int what) {
        Frame asked = now.frameAt(frame);
        if (asked == null || !isWithin(what, 0, 2)) {
            return INVALID_ARGUMENT;
        }
        if (what == 0) {
            return asked.time;
        }
        return what == 1 ? asked.blinded : edgeCountOf(asked);
    }

    public int pixel(int frame, int row, int column) {
        Frame asked = now.frameAt(frame);
        if (asked == null || !isPlace(row, column)) {
            return INVALID_ARGUMENT;
        }
        return holds(asked.blinded, row) ? NOT_FOUND : asked.pixelAt(row, column);
    }

    public int edges(int frame, int row) {
        Frame asked = now.frameAt(frame);
        if (asked == null || !isPlace(row, 0)) {
            return INVALID_ARGUMENT;
        }
        return holds(asked.blinded, row) ? NOT_FOUND : now.edgesIn(asked, row);
    }

    public int pass(int ticks) {
        if (!isWithin(ticks, 1, MOST_TICKS)) {
            return INVALID_ARGUMENT;
        }
        if (now.time + ticks > MOST_TIME) {
            return LIMIT_REACHED;
        }
        recordState();
        now.time += ticks;
        return now.time;
    }

    // ---- votes; the first frame may be taken behind the second one

    public int vote(int first, int second, int row) {
        if (!isPair(first, second) || !isPlace(row, 0)) {
            return INVALID_ARGUMENT;
        }
        voteOn(first, second);
        return voting.voteOf(row);
    }

    public int shift(int first, int second) {
        if (!isPair(first, second)) {
            return INVALID_ARGUMENT;
        }
        voteOn(first, second);
        return voting.told();
    }

    public int voters(int first, int second, int shift) {
        if (!isPair(first, second) || !isWithin(shift, -MOST_SHIFT, MOST_SHIFT)) {
            return INVALID_ARGUMENT;
        }
        voteOn(first, second);
        return voting.votersFor(shift);
    }

    public int dissent(int first, int second) {
        if (!isPair(first, second)) {
            return INVALID_ARGUMENT;
        }
        voteOn(first, second);
        int told = voting.told();
        return told == NOT_FOUND ? NOT_FOUND : voting.votersAtAll() & ~voting.votersFor(told);
    }

    public int speed(int first, int second) {
        Frame before = now.frameAt(first);
        Frame after = now.frameAt(second);
        if (before == null || after == null || first == second) {
            return INVALID_ARGUMENT;
        }
        int ticks = after.time - before.time;
        if (ticks == 0) {
            return NOT_POSSIBLE;
        }
        voteOn(first, second);
        int told = voting.told();
        return told == NOT_FOUND ? NOT_FOUND : told * 100 / ticks;
    }

    public int slant(int frame) {
        Frame asked = now.frameAt(frame);
        if (asked == null) {
            return INVALID_ARGUMENT;
        }
        voting.voteOnSlant(now, asked);
        return voting.told();
    }

    public int slantSpeed(int frame) {
        Frame asked = now.frameAt(frame);
        if (asked == null) {
            return INVALID_ARGUMENT;
        }
        int delay = now.setting(DELAY);
        if (delay == 0) {
            return NOT_POSSIBLE;
        }
        voting.voteOnSlant(now, asked);
        int told = voting.told();
        return told == NOT_FOUND ? NOT_FOUND : told * 100 / delay;
    }

    public int weighed(int first, int second) {
        if (!isPair(first, second)) {
            return INVALID_ARGUMENT;
        }
        voteOn(first, second);
        voting.weigh(now);
        return voting.told();
    }

    public int judge(int first, int second) {
        if (!isPair(first, second)) {
            return INVALID_ARGUMENT;
        }
        voteOn(first, second);
        int told = voting.told();
        if (told == NOT_FOUND) {
            return NOT_FOUND;
        }
        recordState();
        now.judgeRows(voting.votersFor(told), voting.votersAtAll());
        return Integer.bitCount(voting.votersAtAll());
    }

    public int rowOf(int row, int what) {
        if (!isWithin(row, 0, MOST_ROWS - 1) || !isWithin(what, 0, 3)) {
            return INVALID_ARGUMENT;
        }
        if (what == 0) {
            return holds(now.blinded, row) ? 1 : 0;
        }
        if (what == 3) {
            return now.weightOf(row);
        }
        return numberIn(what == 1 ? now.agreed : now.dissented, row);
    }

    public int bestWait(int frame, int what) {
        Frame first = now.frameAt(frame);
        if (first == null || !isWithin(what, 0, 1)) {
            return INVALID_ARGUMENT;
        }
        int best = NOT_FOUND;
        int mostVotes = 0;
        voting.readFirst(now, first);
        for (int wait = 1; wait <= MOST_WAIT; wait++) {
            now.photograph(trial, now.time + wait, line);
            voting.readSecond(now, trial);
            voting.voteOnShift();
            if (voting.told() != NOT_FOUND && voting.mostVotes() > mostVotes) {
                best = wait;
                mostVotes = voting.mostVotes();
            }
        }
        return what == 1 && best != NOT_FOUND ? mostVotes : best;
    }

    // ---- what fits

    public int motions(int thing, int what) {
        if (now.thingAt(thing) == null || !isWithin(what, 0, 4)) {
            return INVALID_ARGUMENT;
        }
        search.run(now, thing);
        return what > 0 && search.isVain() ? NOT_FOUND : search.answer(what);
    }

    public int periods() {
        int periods = ALL_PERIODS;
        for (int i = 0; i < now.frameCount; i++) {
            Frame frame = now.frameAt(i);
            if (frame != null) {
                periods &= periodsFitting(frame);
            }
        }
        return periods;
    }

    public int fitting(int frame) {
        Frame asked = now.frameAt(frame);
        if (asked == null) {
            return INVALID_ARGUMENT;
        }
        int rows = 0;
        for (int row = 0; row < now.setting(ROWS); row++) {
            int time = now.timeOfRow(asked, row);
            if (!holds(asked.blinded, row) && rowFits(asked, row, now.percentAt(time))) {
                rows |= 1 << row;
            }
        }
        return rows;
    }

    public int count(int what) {
        if (isWithin(what, 10, 10 + DIM)) {
            return now.setting(what - 10);
        }
        switch (what) {
            case 0: return now.thingCount;
            case 1: return now.frameCount;
            case 2: return now.time;
            case 3: return Integer.bitCount(now.blinded);
            case 4: return now.framesTaken;
            case 5: return isDark(now.time, now.setting(PERIOD), now.setting(DARK_TICKS)) ? 1 : 0;
            case 6: return states;
            case 7: return script.length;
            default: return INVALID_ARGUMENT;
        }
    }

    public int undo() {
        int latest = states - 1;
        if (latest < 0 || latest >= history.length) {
            return NOT_POSSIBLE;
        }
        now.become(history[latest]);
        states = latest;
        return states;
    }

    // ---- texts

    public int type(int character) {
        if (!isWithin(character, 32, 126)) {
            return INVALID_ARGUMENT;
        }
        return script.append((char) character) ? script.length : LIMIT_REACHED;
    }

    public int clearText() {
        int before = script.length;
        script.length = 0;
        return before;
    }

    public int fault(int what) {
        if (!isWithin(what, 0, 2)) {
            return INVALID_ARGUMENT;
        }
        script.examine(now);
        if (script.reason == SOUND || (what == 2 && script.reason == REFUSED)) {
            return NOT_FOUND;
        }
        if (what == 0) {
            return script.place;
        }
        return what == 1 ? script.reason : script.cause;
    }

    public int play() {
        script.examine(now);
        if (script.reason != SOUND) {
            return NOT_POSSIBLE;
        }
        recordState();
        Order order = script.order;
        int from = 0;
        for (int i = 0; i < script.orderCount; i++) {
            order.read(script, from);
            order.perform(now, line);
            from = order.end;
        }
        return script.orderCount;
    }

    // ---- what several calls share

    /** Keeps the present state as the latest one of the history; a fifth state takes the place of the oldest one. */
    private void recordState() {
        if (states >= history.length) {
            dropOldestState();
        }
        if (states >= 0 && states < history.length && history[states] != null) {
            history[states].become(now);
            states++;
        }
    }

    /** Moves the oldest state behind the others, where it is written to next. */
    private void dropOldestState() {
        for (int i = 1; i < history.length; i++) {
            Scene oldest = history[i - 1];
            history[i - 1] = history[i];
            history[i] = oldest;
        }
        states = history.length - 1;
    }

    private boolean isPlace(int row, int column) {
        return isWithin(row, 0, now.setting(ROWS) - 1) && isWithin(column, 0, now.setting(COLUMNS) - 1);
    }

    private boolean isPair(int first, int second) {
        return first != second && now.frameAt(first) != null && now.frameAt(second) != null;
    }

    private void voteOn(int first, int second) {
        voting.readFirst(now, now.frameAt(first));
        voting.readSecond(now, now.frameAt(second));
        voting.voteOnShift();
    }

    private int edgeCountOf(Frame frame) {
        int edgeCount = 0;
        for (int row = 0; row < now.setting(ROWS); row++) {
            edgeCount += Integer.bitCount(now.edgesIn(frame, row));
        }
        return edgeCount;
    }

    /** Whether a row of a frame has the pixels that it would have now, with a light of so many percent. */
    private boolean rowFits(Frame frame, int row, int percent) {
        now.paint(row, now.timeOfRow(frame, row), NO_THING, 0, line);
        for (int column = 0; column < now.setting(COLUMNS); column++) {
            if (frame.pixelAt(row, column) != dimmed(numberIn(line, column), percent)) {
                return false;
            }
        }
        return true;
    }

    private int periodsFitting(Frame frame) {
        int periods = ALL_PERIODS;
        for (int row = 0; row < now.setting(ROWS); row++) {
            if (!holds(frame.blinded, row)) {
                int dark = darkPeriods(now.timeOfRow(frame, row));
                int ifDark = rowFits(frame, row, now.setting(DIM)) ? dark : 0;
                int ifLit = rowFits(frame, row, 100) ? ~dark : 0;
                periods &= ifDark | ifLit;
            }
        }
        return periods;
    }

    /** The set of the periods with which the lamp would be dark at a time. */
    private int darkPeriods(int time) {
        int periods = 0;
        for (int period = 0; period <= MOST_PERIOD; period++) {
            if (isDark(time, period, now.setting(DARK_TICKS))) {
                periods |= 1 << period;
            }
        }
        return periods;
    }

    private static boolean isWithin(int value, int least, int most) {
        return value >= least && value <= most;
    }

    private static int numberIn(int[] numbers, int place) {
        return place >= 0 && place < numbers.length ? numbers[place] : 0;
    }

    private static boolean holds(int set, int number) {
        return ((set >> number) & 1) == 1;
    }

    private static boolean isDark(int time, int period, int darkTicks) {
        return period != 0 && time % period < darkTicks;
    }

    private static int dimmed(int brightness, int percent) {
        return brightness * percent / 100;
    }

    /** Which of the numbers of a thing is the first one that is out of its range, or -1. */
    private static int wrongOfThing(int top, int bottom, int position, int speed, int width, int brightness) {
        if (!isWithin(top, 0, MOST_ROWS - 1)) {
            return 0;
        }
        if (!isWithin(bottom, top, MOST_ROWS - 1)) {
            return 1;
        }
        if (!isWithin(position, -20000, 20000)) {
            return 2;
        }
        if (!isWithin(speed, -MOST_SPEED, MOST_SPEED)) {
            return 3;
        }
        if (!isWithin(width, 50, 1600)) {
            return 4;
        }
        return isWithin(brightness, 0, 255) ? -1 : 5;
    }

    /** The set of the columns whose middles, at 100 * c + 50, are covered by what stands at a left side. */
    private static int columnsCovered(int left, int width) {
        int from = Math.max(0, Math.min(MOST_COLUMNS, Math.floorDiv(left + 49, 100)));
        int behind = Math.max(0, Math.min(MOST_COLUMNS, Math.floorDiv(left + width + 49, 100)));
        return (1 << behind) - (1 << from);
    }

    /** The shift for which most edges of the first set have an edge of the second one, or NOT_FOUND. */
    private static int bestShift(int firstEdges, int secondEdges) {
        int best = NOT_FOUND;
        int most = 0;
        if (firstEdges == 0 || secondEdges == 0) {
            return NOT_FOUND;
        }
        for (int size = 0; size <= MOST_SHIFT; size++) {
            int leftwards = Integer.bitCount((firstEdges >> size) & secondEdges);
            int rightwards = Integer.bitCount((firstEdges << size) & secondEdges);
            if (leftwards > most) {
                best = -size;
                most = leftwards;
            }
            if (rightwards > most) {
                best = size;
                most = rightwards;
            }
        }
        return best;
    }

    /** A thing: its rows, where it is at the time 0, how it moves, and what is seen of it. */
    private static final class Thing {
        int top;
        int bottom;
        int position;
        int speed;
        int width;
        int brightness;

        void become(Thing other) {
            top = other.top;
            bottom = other.bottom;
            position = other.position;
            speed = other.speed;
            width = other.width;
            brightness = other.brightness;
        }

        int numberOf(int what) {
            switch (what) {
                case 0: return top;
                case 1: return bottom;
                case 2: return position;
                case 3: return speed;
                case 4: return width;
                default: return brightness;
            }
        }

        boolean isIn(int row) {
            return row >= top && row <= bottom;
        }

        int positionAt(int time) {
            return position + speed * time;
        }

        /** Tells the position anew, so that the thing is where it was at the time. */
        void changeSpeed(int newSpeed, int time) {
            position = positionAt(time) - newSpeed * time;
            speed = newSpeed;
        }
    }

    /** A frame; the pixels of its blinded rows, and of columns that there are not, are not looked at. */
    private static final class Frame {
        int time;
        int blinded;
        final int[] pixels = new int[MOST_ROWS * MOST_COLUMNS];

        void become(Frame other) {
            time = other.time;
            blinded = other.blinded;
            for (int i = 0; i < pixels.length && i < other.pixels.length; i++) {
                pixels[i] = other.pixels[i];
            }
        }

        int pixelAt(int row, int column) {
            return numberIn(pixels, row * MOST_COLUMNS + column);
        }

        void keepRow(int row, int[] line, int percent) {
            int from = row * MOST_COLUMNS;
            for (int column = 0; column < line.length; column++) {
                int place = from + column;
                if (place >= 0 && place < pixels.length) {
                    pixels[place] = dimmed(line[column], percent);
                }
            }
        }
    }

    /** All that a change records: settings, things, frames, the time, and what is known of the rows. */
    private static final class Scene {
        final int[] settings = new int[DIM + 1];
        final Thing[] things = new Thing[MOST_THINGS];
        int thingCount;
        final Frame[] frames = new Frame[MOST_FRAMES];
        int frameCount;
        int framesTaken;
        int time;
        int blinded;
        final int[] agreed = new int[MOST_ROWS];
        final int[] dissented = new int[MOST_ROWS];

        Scene() {
            for (int i = 0; i < settings.length; i++) {
                settings[i] = numberIn(FIRST_SETTINGS, i);
            }
            for (int i = 0; i < things.length; i++) {
                things[i] = new Thing();
            }
            for (int i = 0; i < frames.length; i++) {
                frames[i] = new Frame();
            }
        }

        void become(Scene other) {
            if (other == null) {
                return;
            }
            for (int i = 0; i < settings.length; i++) {
                settings[i] = numberIn(other.settings, i);
            }
            becomeInThings(other);
            becomeInFrames(other);
            time = other.time;
            blinded = other.blinded;
            for (int row = 0; row < agreed.length && row < dissented.length; row++) {
                agreed[row] = numberIn(other.agreed, row);
                dissented[row] = numberIn(other.dissented, row);
            }
        }

        private void becomeInThings(Scene other) {
            thingCount = other.thingCount;
            for (int i = 0; i < thingCount; i++) {
                Thing mine = thingAt(i);
                Thing its = other.thingAt(i);
                if (mine != null && its != null) {
                    mine.become(its);
                }
            }
        }

        private void becomeInFrames(Scene other) {
            frameCount = other.frameCount;
            framesTaken = other.framesTaken;
            for (int i = 0; i < frameCount; i++) {
                Frame mine = frameAt(i);
                Frame its = other.frameAt(i);
                if (mine != null && its != null) {
                    mine.become(its);
                }
            }
        }

        int setting(int what) {
            return numberIn(settings, what);
        }

        void changeSetting(int what, int value) {
            if (what >= 0 && what < settings.length) {
                settings[what] = value;
            }
        }

        /** The thing with a number, or null if there is none. */
        Thing thingAt(int number) {
            return number >= 0 && number < thingCount && number < things.length ? things[number] : null;
        }

        void addThing(int top, int bottom, int position, int speed, int width, int brightness) {
            if (thingCount < 0 || thingCount >= things.length) {
                return;
            }
            Thing added = things[thingCount];
            if (added == null) {
                return;
            }
            added.top = top;
            added.bottom = bottom;
            added.position = position;
            added.speed = speed;
            added.width = width;
            added.brightness = brightness;
            thingCount++;
        }

        /** The frame with a number, or null if there is none. */
        Frame frameAt(int number) {
            return number >= 0 && number < frameCount && number < frames.length ? frames[number] : null;
        }

        void takeFrame(int[] line) {
            if (frameCount >= frames.length) {
                dropFrame(0);
            }
            framesTaken++;
            frameCount++;
            Frame taken = frameAt(frameCount - 1);
            if (taken != null) {
                photograph(taken, time, line);
            }
        }

        /** Moves the frame behind those that are kept, where its arrays are used again. */
        void dropFrame(int number) {
            Frame dropped = frameAt(number);
            if (dropped == null) {
                return;
            }
            for (int i = number + 1; i < frameCount && i < frames.length; i++) {
                frames[i - 1] = frames[i];
            }
            int last = frameCount - 1;
            if (last >= 0 && last < frames.length) {
                frames[last] = dropped;
                frameCount = last;
            }
        }

        /** Gives a frame what would be seen if it were taken at a time. */
        void photograph(Frame frame, int at, int[] line) {
            int rows = setting(ROWS);
            frame.time = at;
            frame.blinded = blinded & ((1 << rows) - 1);
            for (int row = 0; row < rows; row++) {
                if (!holds(blinded, row)) {
                    int rowTime = timeOfRow(frame, row);
                    paint(row, rowTime, NO_THING, 0, line);
                    frame.keepRow(row, line, percentAt(rowTime));
                }
            }
        }

        int timeOfRow(Frame frame, int row) {
            return frame.time + row * setting(DELAY);
        }

        /** How much of the brightness is seen at a time, in percent. */
        int percentAt(int at) {
            return isDark(at, setting(PERIOD), setting(DARK_TICKS)) ? setting(DIM) : 100;
        }

        /**
         * Paints a row as it would be at a time if the lamp were not dark. The thing with the number `placed`
         * covers the columns of the set `cover`, wherever it is.
         */
        void paint(int row, int at, int placed, int cover, int[] line) {
            int ground = setting(GROUND);
            for (int column = 0; column < line.length; column++) {
                line[column] = ground;
            }
            for (int i = 0; i < thingCount; i++) {
                Thing thing = thingAt(i);
                if (thing != null && thing.isIn(row)) {
                    int columns = i == placed ? cover : columnsCovered(thing.positionAt(at), thing.width);
                    paintOver(line, columns, thing.brightness);
                }
            }
        }

        private void paintOver(int[] line, int columns, int brightness) {
            for (int column = 0; column < line.length; column++) {
                if (holds(columns, column)) {
                    line[column] = brightness;
                }
            }
        }

        /** The edges in a row of a frame; a row that was blinded has none. */
        int edgesIn(Frame frame, int row) {
            int threshold = setting(THRESHOLD);
            int edges = 0;
            if (holds(frame.blinded, row)) {
                return 0;
            }
            for (int column = 1; column < setting(COLUMNS); column++) {
                int difference = frame.pixelAt(row, column) - frame.pixelAt(row, column - 1);
                if (Math.abs(difference) >= threshold) {
                    edges |= 1 << column;
                }
            }
            return edges;
        }

        void judgeRows(int agreeing, int voting) {
            for (int row = 0; row < agreed.length && row < dissented.length; row++) {
                if (holds(agreeing, row)) {
                    agreed[row]++;
                } else if (holds(voting, row)) {
                    dissented[row]++;
                }
            }
        }

        int weightOf(int row) {
            return 1 + Math.max(0, numberIn(agreed, row) - numberIn(dissented, row));
        }
    }

    /** The votes of rows, and what is told by most of them. */
    private static final class Voting {
        final int[] firstEdges = new int[MOST_ROWS];
        final int[] secondEdges = new int[MOST_ROWS];
        final int[] votes = new int[MOST_ROWS];
        final int[] tally = new int[2 * MOST_SHIFT + 1];

        void readFirst(Scene scene, Frame frame) {
            readEdges(scene, frame, firstEdges);
        }

        void readSecond(Scene scene, Frame frame) {
            readEdges(scene, frame, secondEdges);
        }

        private void readEdges(Scene scene, Frame frame, int[] found) {
            int rows = scene.setting(ROWS);
            for (int row = 0; row < found.length; row++) {
                found[row] = frame != null && row < rows ? scene.edgesIn(frame, row) : 0;
            }
        }

        /** Each row votes by its edges in the first and in the second frame. */
        void voteOnShift() {
            for (int row = 0; row < votes.length; row++) {
                votes[row] = bestShift(numberIn(firstEdges, row), numberIn(secondEdges, row));
            }
            countVotes(null);
        }

        /** Each row votes by its edges and those of the row below it; the lowest one has none below it. */
        void voteOnSlant(Scene scene, Frame frame) {
            readFirst(scene, frame);
            for (int row = 0; row < votes.length; row++) {
                votes[row] = bestShift(numberIn(firstEdges, row), numberIn(firstEdges, row + 1));
            }
            countVotes(null);
        }

        /** Counts the votes once more, each with the weight of its row. */
        void weigh(Scene scene) {
            countVotes(scene);
        }

        private void countVotes(Scene weighing) {
            for (int i = 0; i < tally.length; i++) {
                tally[i] = 0;
            }
            for (int row = 0; row < votes.length; row++) {
                int place = votes[row] + MOST_SHIFT;
                if (votes[row] != NOT_FOUND && place >= 0 && place < tally.length) {
                    tally[place] += weighing == null ? 1 : weighing.weightOf(row);
                }
            }
        }

        int voteOf(int row) {
            return row >= 0 && row < votes.length ? votes[row] : NOT_FOUND;
        }

        int votersFor(int shift) {
            int rows = 0;
            for (int row = 0; row < votes.length; row++) {
                if (votes[row] == shift) {
                    rows |= 1 << row;
                }
            }
            return rows;
        }

        int votersAtAll() {
            return ((1 << votes.length) - 1) & ~votersFor(NOT_FOUND);
        }

        int mostVotes() {
            int most = 0;
            for (int i = 0; i < tally.length; i++) {
                most = Math.max(most, tally[i]);
            }
            return most;
        }

        /** The shift that has the most votes alone, or NOT_FOUND. */
        int told() {
            int most = mostVotes();
            int told = NOT_FOUND;
            int holders = 0;
            for (int i = 0; i < tally.length; i++) {
                if (most > 0 && tally[i] == most) {
                    told = i - MOST_SHIFT;
                    holders++;
                }
            }
            return holders == 1 ? told : NOT_FOUND;
        }
    }

    /**
     * Finds the motions that fit a thing. What a frame asks of the thing is the same for all motions, so it is
     * gathered once: a demand says in which columns of a row the thing has to be at a time, and in which it must not.
     */
    private static final class MotionSearch {
        final int[] times = new int[MOST_FRAMES * MOST_ROWS];
        final int[] needed = new int[MOST_FRAMES * MOST_ROWS];
        final int[] barred = new int[MOST_FRAMES * MOST_ROWS];
        int demands;
        final int[] lineWithout = new int[MOST_COLUMNS];
        final int[] lineWith = new int[MOST_COLUMNS];
        int found;
        int firstPosition;
        int firstSpeed;
        int lastPosition;
        int lastSpeed;

        void run(Scene scene, int number) {
            Thing thing = scene.thingAt(number);
            found = 0;
            if (thing == null) {
                return;
            }
            gatherDemands(scene, number);
            for (int position = LEAST_TRIED_POSITION; position <= MOST_TRIED_POSITION; position += POSITION_STEP) {
                for (int speed = -MOST_TRIED_SPEED; speed <= MOST_TRIED_SPEED; speed += SPEED_STEP) {
                    if (meetsDemands(position, speed, thing.width)) {
                        keepMotion(position, speed);
                    }
                }
            }
        }

        boolean isVain() {
            return found == 0;
        }

        int answer(int what) {
            switch (what) {
                case 0: return found;
                case 1: return firstPosition;
                case 2: return firstSpeed;
                case 3: return lastPosition;
                default: return lastSpeed;
            }
        }

        private void gatherDemands(Scene scene, int number) {
            demands = 0;
            for (int i = 0; i < scene.frameCount; i++) {
                Frame frame = scene.frameAt(i);
                for (int row = 0; frame != null && row < scene.setting(ROWS); row++) {
                    if (!holds(frame.blinded, row)) {
                        addDemand(scene, number, frame, row);
                    }
                }
            }
        }

        /** A pixel that is neither the thing's nor what else is there bars its column and needs it: nothing fits. */
        private void addDemand(Scene scene, int number, Frame frame, int row) {
            int time = scene.timeOfRow(frame, row);
            int percent = scene.percentAt(time);
            int need = 0;
            int bar = 0;
            scene.paint(row, time, number, 0, lineWithout);
            scene.paint(row, time, number, ALL_COLUMNS, lineWith);
            for (int column = 0; column < scene.setting(COLUMNS); column++) {
                int pixel = frame.pixelAt(row, column);
                if (dimmed(numberIn(lineWithout, column), percent) != pixel) {
                    need |= 1 << column;
                }
                if (dimmed(numberIn(lineWith, column), percent) != pixel) {
                    bar |= 1 << column;
                }
            }
            if (demands < times.length && demands < needed.length && demands < barred.length) {
                times[demands] = time;
                needed[demands] = need;
                barred[demands] = bar;
                demands++;
            }
        }

        private boolean meetsDemands(int position, int speed, int width) {
            for (int i = 0; i < demands; i++) {
                int columns = columnsCovered(position + speed * numberIn(times, i), width);
                if ((columns & numberIn(barred, i)) != 0 || (numberIn(needed, i) & ~columns) != 0) {
                    return false;
                }
            }
            return true;
        }

        private void keepMotion(int position, int speed) {
            if (found == 0) {
                firstPosition = position;
                firstSpeed = speed;
            }
            lastPosition = position;
            lastSpeed = speed;
            found++;
        }
    }

    /** The text, and what is told of its fault. */
    private static final class Script {
        final char[] signs = new char[MOST_SIGNS];
        int length;
        final Order order = new Order();
        int orderCount;
        int place;
        int reason;
        int cause;
        int thingsThen;
        int timeThen;
        int blindedThen;

        boolean append(char sign) {
            if (length < 0 || length >= signs.length) {
                return false;
            }
            signs[length] = sign;
            length++;
            return true;
        }

        /** The sign at a place, or 0 behind the end of the text. */
        char signAt(int at) {
            return at >= 0 && at < length && at < signs.length ? signs[at] : 0;
        }

        /** Goes through the orders up to the first one that is not possible. */
        void examine(Scene scene) {
            thingsThen = scene.thingCount;
            timeThen = scene.time;
            blindedThen = scene.blinded;
            orderCount = 0;
            place = 0;
            reason = SOUND;
            for (int i = 0; i < MOST_SIGNS && place < length && reason == SOUND; i++) {
                order.read(this, place);
                examineOrder();
                if (reason == SOUND) {
                    place = order.end;
                    orderCount++;
                }
            }
        }

        private void examineOrder() {
            if (order.broken) {
                reason = BAD_FORM;
                cause = order.end - place;
            } else if (order.wrongNumber() >= 0) {
                reason = BAD_NUMBER;
                cause = order.wrongNumber();
            } else if (!isPossibleThen()) {
                reason = REFUSED;
            }
        }

        /** Whether the order is possible when those ahead of it are done; tells ahead what is changed by it. */
        private boolean isPossibleThen() {
            int number = order.numberAt(0);
            boolean wasBlinded = holds(blindedThen, number);
            if (order.letter == 't') {
                thingsThen++;
                return thingsThen <= MOST_THINGS;
            }
            if (order.letter == 'g') {
                timeThen += number;
                return timeThen <= MOST_TIME;
            }
            if (order.letter == 'b') {
                blindedThen |= 1 << number;
                return !wasBlinded;
            }
            if (order.letter == 'u') {
                blindedThen &= ~(1 << number);
                return wasBlinded;
            }
            return true;
        }
    }

    /** An order of the text, as it is read. */
    private static final class Order {
        char letter;
        final int[] numbers = new int[NUMBERS_OF_THING];
        /** Behind its ";", or where it breaks off. */
        int end;
        boolean broken;

        void read(Script script, int start) {
            letter = script.signAt(start);
            int count = numbersBehind(letter);
            broken = count < 0;
            end = broken ? start : start + 1;
            for (int i = 0; i < count && !broken; i++) {
                if (i > 0) {
                    readSign(script, ',');
                }
                if (!broken) {
                    readNumber(script, i);
                }
            }
            if (!broken) {
                readSign(script, ';');
            }
        }

        private static int numbersBehind(char letter) {
            if (letter == 't') {
                return NUMBERS_OF_THING;
            }
            if (letter == 's') {
                return 0;
            }
            return letter == 'g' || letter == 'b' || letter == 'u' ? 1 : -1;
        }

        private void readSign(Script script, char sign) {
            if (script.signAt(end) == sign) {
                end++;
            } else {
                broken = true;
            }
        }

        private void readNumber(Script script, int which) {
            boolean negative = script.signAt(end) == '-';
            if (negative) {
                end++;
            }
            int value = 0;
            int digits = 0;
            while (digits < MOST_DIGITS && isDigit(script.signAt(end))) {
                value = value * 10 + (script.signAt(end) - '0');
                digits++;
                end++;
            }
            broken = digits == 0;
            if (which >= 0 && which < numbers.length) {
                numbers[which] = negative ? -value : value;
            }
        }

        private static boolean isDigit(char sign) {
            return sign >= '0' && sign <= '9';
        }

        int numberAt(int which) {
            return numberIn(numbers, which);
        }

        /** Which of its numbers is the first one that is out of its range, or -1. */
        int wrongNumber() {
            if (letter == 't') {
                return wrongOfThing(numberAt(0), numberAt(1), numberAt(2), numberAt(3), numberAt(4), numberAt(5));
            }
            if (letter == 'g') {
                return isWithin(numberAt(0), 1, MOST_TICKS) ? -1 : 0;
            }
            return letter == 's' || isWithin(numberAt(0), 0, MOST_ROWS - 1) ? -1 : 0;
        }

        void perform(Scene scene, int[] line) {
            if (letter == 't') {
                scene.addThing(numberAt(0), numberAt(1), numberAt(2), numberAt(3), numberAt(4), numberAt(5));
            } else if (letter == 'g') {
                scene.time += numberAt(0);
            } else if (letter == 's') {
                scene.takeFrame(line);
            } else if (letter == 'b') {
                scene.blinded |= 1 << numberAt(0);
            } else if (letter == 'u') {
                scene.blinded &= ~(1 << numberAt(0));
            }
        }
    }
}
