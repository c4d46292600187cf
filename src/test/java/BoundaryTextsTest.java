/** Boundary cases of texts, promises 30 to 33: each sentence of the document has its own test. */
public final class BoundaryTextsTest {
    private static final String FOUR_THINGS = "t0,9,0,0,50,0;t0,9,0,0,50,0;t0,9,0,0,50,0;t0,9,0,0,50,0;";

    public static void main(String[] args) {
        emptyText();
        eightyCharacters();
        charactersTyped();
        textCleared();
        ordersFollowed();
        letters();
        numbersOfDigits();
        zerosAhead();
        minusAhead();
        commas();
        placeOfTheFault();
        formFirst();
        endOfTheText();
        breaksInThings();
        breaksAnywhere();
        rangesOfTicks();
        rangesOfRows();
        rangesOfThings();
        bottomAboveTop();
        firstNumberOutOfRange();
        refusedThings();
        refusedTicks();
        refusedRows();
        refusedByWhatIsAhead();
        formThenRangeThenRest();
        whatOfAFault();
        noFault();
        noCauseOfReasonThree();
        playWithoutOrders();
        playIsOneChange();
        playWithAFault();
        playedInOrder();
        playedAgain();
        Due.end();
    }

    /** The fault of a text in a camera; it is told without a change of anything, and with it play is not possible. */
    private static void fault(RowVotes x, String text, int place, int reason, int cause) {
        Cameras.write(x, text);
        Due.is("place in " + text, x.fault(0), place);
        Due.is("reason in " + text, x.fault(1), reason);
        Due.is("cause in " + text, x.fault(2), cause);
        int states = x.count(6);
        Due.is("play of " + text, x.play(), Cameras.IMPOSSIBLE);
        Due.is("states behind " + text, x.count(6), states);
    }

    private static void fault(String text, int place, int reason, int cause) {
        fault(new RowVotes(), text, place, reason, cause);
    }

    private static void sound(RowVotes x, String text, int orders) {
        Cameras.write(x, text);
        for (int what = 0; what <= 2; what++) {
            Due.is("fault(" + what + ") of " + text, x.fault(what), Cameras.NONE);
        }
        Due.is("play of " + text, x.play(), orders);
    }

    private static void sound(String text, int orders) {
        sound(new RowVotes(), text, orders);
    }

    private static void emptyText() {
        Due.sentence("There is a text of at most 80 characters, initially empty:");
        RowVotes x = new RowVotes();
        Due.is("its length", x.count(7), 0);
        Due.is("its place of a fault", x.fault(0), Cameras.NONE);
        Due.is("its reason of a fault", x.fault(1), Cameras.NONE);
        Due.is("its cause of a fault", x.fault(2), Cameras.NONE);
        Due.is("clearText", x.clearText(), 0);
        Due.is("play", x.play(), 0);
        Due.is("one character", x.type('s'), 1);
        Due.is("that is a fault", x.fault(0), 0);
        Due.is("clearText again", x.clearText(), 1);
        Due.is("empty again", x.fault(0), Cameras.NONE);
    }

    private static void eightyCharacters() {
        Due.sentence("Returns the length of the text; INVALID_ARGUMENT if character is out of range; "
            + "LIMIT_REACHED if it has 80 characters.");
        RowVotes x = new RowVotes();
        for (int i = 1; i <= 80; i++) {
            Due.is("character " + i, x.type(i % 2 == 1 ? 's' : ';'), i);
        }
        Due.is("character 81", x.type('s'), Cameras.LIMIT);
        Due.is("character 81 again", x.type(';'), Cameras.LIMIT);
        Due.is("character 81, out of range", x.type(31), Cameras.INVALID);
        Due.is("character 81, out of range", x.type(127), Cameras.INVALID);
        Due.is("its length", x.count(7), 80);
        Due.is("all of it is read", x.play(), 40);
        Due.is("frames taken", x.count(4), 40);
        Due.is("clearText", x.clearText(), 80);
        Due.is("a character", x.type('s'), 1);
        for (int i = 2; i <= 79; i++) {
            x.type(i % 2 == 0 ? ';' : 's');
        }
        Due.is("79 characters, the last order has no end", x.fault(0), 78);
        Due.is("79 characters, why", x.fault(1), 1);
        Due.is("79 characters, where", x.fault(2), 1);
        Due.is("character 80", x.type('s'), 80);
        Due.is("80 characters, where", x.fault(2), 1);
    }

    private static void charactersTyped() {
        Due.sentence("- `character`: 32 to 126");
        RowVotes x = new RowVotes();
        for (int character : new int[] {31, 127, 0, -1, 128, 32 + 256, 115 + 65536, Integer.MIN_VALUE, Integer.MAX_VALUE}) {
            Due.is("type(" + character + ")", x.type(character), Cameras.INVALID);
        }
        Due.is("its length", x.count(7), 0);
        int length = 0;
        for (int character : new int[] {32, 33, 125, 126}) {
            length++;
            Due.is("type(" + character + ")", x.type(character), length);
        }
        Due.is("its length", x.count(7), 4);
        Due.is("no change", x.count(6), 0);
    }

    private static void textCleared() {
        Due.sentence("Returns the length it had.");
        RowVotes x = new RowVotes();
        for (int length : new int[] {0, 1, 79, 80}) {
            for (int i = 0; i < length; i++) {
                x.type('x');
            }
            Due.is("of " + length, x.clearText(), length);
            Due.is("its length then", x.count(7), 0);
            Due.is("no fault then", x.fault(1), Cameras.NONE);
        }
        Due.is("no change", x.count(6), 0);
    }

    private static void ordersFollowed() {
        Due.sentence("orders, each followed by \";\":");
        sound("s;", 1);
        sound("s;s;", 2);
        sound("g1;g1;g1;", 3);
        sound("t0,0,0,0,50,0;g1;s;b0;u0;", 5);
        fault("s", 0, 1, 1);
        fault("s;s", 2, 1, 1);
        fault("s,s;", 0, 1, 1);
        fault(";", 0, 1, 0);
        fault(";s;", 0, 1, 0);
        fault("s;;", 2, 1, 0);
        fault("s; s;", 2, 1, 0);
        fault("s ;", 0, 1, 1);
        fault("s;s; ", 4, 1, 0);
        fault("g1", 0, 1, 2);
        fault("g1:", 0, 1, 2);
    }

    private static void letters() {
        Due.sentence("\"g\" ticks (they go by), \"s\" (a frame is taken), \"b\" a row (it is blinded), "
            + "\"u\" a row (it is blinded no more);");
        String before = "g7;b3;b4;u3;s;";
        for (char letter = 32; letter < 127; letter++) {
            if ("tgsbu".indexOf(letter) < 0) {
                RowVotes x = new RowVotes();
                Cameras.write(x, before + letter + "1;");
                Due.is("place of " + letter, x.fault(0), 14);
                Due.is("reason of " + letter, x.fault(1), 1);
                Due.is("cause of " + letter, x.fault(2), 0);
            }
        }
        RowVotes x = new RowVotes();
        sound(x, before, 5);
        Due.is("the ticks", x.count(2), 7);
        Due.is("the frame", x.frameOf(0, 0), 7);
        Due.is("what was blinded then", x.frameOf(0, 1), 16);
        Due.is("row 3", x.rowOf(3, 0), 0);
        Due.is("row 4", x.rowOf(4, 0), 1);
        fault("s1;", 0, 1, 1);
        fault("g;", 0, 1, 1);
        fault("b;", 0, 1, 1);
        fault("u;", 0, 1, 1);
        fault("t;", 0, 1, 1);
    }

    private static void numbersOfDigits() {
        Due.sentence("numbers of 1 to 5 digits, 0 ahead allowed, \"-\" ahead of them allowed.");
        sound("g1;", 1);
        sound("g12;", 1);
        sound("g200;", 1);
        sound("g0012;", 1);
        sound("g00012;", 1);
        fault("g000012;", 0, 1, 6);
        fault("g0000012;", 0, 1, 6);
        fault("g;", 0, 1, 1);
        fault("g-;", 0, 1, 2);
        fault("g99999;", 0, 2, 0);
        fault("g100000;", 0, 1, 6);
        fault("g-99999;", 0, 2, 0);
        fault("g-100000;", 0, 1, 7);
        RowVotes x = new RowVotes();
        sound(x, "t00001,00009,-20000,-0200,01600,00255;", 1);
        int[] due = {1, 9, -20000, -200, 1600, 255};
        for (int what = 0; what < 6; what++) {
            Due.is("its number " + what, x.thingOf(0, what), due[what]);
        }
        sound(x, "t1,9,20000,200,50,0;", 1);
        Due.is("its position", x.thingOf(1, 2), 20000);
    }

    private static void zerosAhead() {
        Due.sentence("0 ahead allowed");
        RowVotes x = new RowVotes();
        sound(x, "g7;g07;g007;g0007;g00007;", 5);
        Due.is("the time", x.count(2), 35);
        fault(x, "g000007;", 0, 1, 6);
        fault(x, "g00000;", 0, 2, 0);
        fault(x, "g0;", 0, 2, 0);
        sound(x, "b00000;b09;b00008;", 3);
        Due.is("rows that are blinded", x.count(3), 3);
        fault(x, "u00010;", 0, 2, 0);
        fault(x, "u000009;", 0, 1, 6);
    }

    private static void minusAhead() {
        Due.sentence("\"-\" ahead of them allowed");
        RowVotes x = new RowVotes();
        sound(x, "t-0,-0,-1,-1,50,-0;", 1);
        Due.is("its position", x.thingOf(0, 2), -1);
        Due.is("its speed", x.thingOf(0, 3), -1);
        sound(x, "t0,0,-00001,-00200,50,0;", 1);
        Due.is("its position", x.thingOf(1, 2), -1);
        Due.is("its speed", x.thingOf(1, 3), -200);
        sound(x, "b-0;", 1);
        Due.is("row 0", x.rowOf(0, 0), 1);
        fault(x, "b-1;", 0, 2, 0);
        fault(x, "g-1;", 0, 2, 0);
        fault(x, "g--1;", 0, 1, 2);
        fault(x, "g1-;", 0, 1, 2);
        fault(x, "g-", 0, 1, 2);
        fault(x, "g- 1;", 0, 1, 2);
        fault(x, "g+1;", 0, 1, 1);
        fault(x, "-g1;", 0, 1, 0);
        fault(x, "g0-1;", 0, 1, 2);
    }

    private static void commas() {
        Due.sentence("\"t\" six numbers, each but the first behind a \",\" (a thing: top, bottom, position, speed, width, brightness)");
        RowVotes x = new RowVotes();
        sound(x, "t2,5,-300,-7,60,90;", 1);
        int[] due = {2, 5, -300, -7, 60, 90};
        for (int what = 0; what < 6; what++) {
            Due.is("its number " + what, x.thingOf(0, what), due[what]);
        }
        fault("t2,5,300,7,60;", 0, 1, 13);
        fault("t2,5,300,7,60,;", 0, 1, 14);
        fault("t2,5,300,7,60,9,;", 0, 1, 15);
        fault("t2,5,300,7,60,9,1;", 0, 1, 15);
        fault("t,2,5,300,7,60,9;", 0, 1, 1);
        fault("t2,,5,300,7,60,9;", 0, 1, 3);
        fault("t2 5,300,7,60,9;", 0, 1, 2);
        fault("t2;5,300,7,60,9;", 0, 1, 2);
        fault("t2, 5,300,7,60,9;", 0, 1, 3);
        fault("g2,5;", 0, 1, 2);
        fault("b2,5;", 0, 1, 2);
    }

    private static void placeOfTheFault() {
        Due.sentence("The fault of the text is the position, from 0, of the first character of the first order that is not possible;");
        fault("x;x;", 0, 1, 0);
        fault("s;x;x;", 2, 1, 0);
        fault("s;s;x;", 4, 1, 0);
        fault("g1;g0;g0;", 3, 2, 0);
        fault("b1;b1;b1;", 3, 3, Cameras.NONE);
        fault("s;g0;x", 2, 2, 0);
        fault("s;b1;u2;x", 5, 3, Cameras.NONE);
        String text = "s;s;s;s;s;s;s;s;s;s;s;s;s;s;s;s;s;s;s;s;s;s;s;s;s;s;s;s;s;s;s;s;s;s;s;s;s;s;s;";
        fault(text + "x;", 78, 1, 0);
        fault(text + ";", 78, 1, 0);
        fault(text + "g1", 78, 1, 2);
    }

    private static void formFirst() {
        Due.sentence("its reason is 1 if it is not of this form, its \";\" included, 2 if one of its numbers is out of its range,");
        fault("g0", 0, 1, 2);
        fault("g0;", 0, 2, 0);
        fault("g0,", 0, 1, 2);
        fault("b10", 0, 1, 3);
        fault("b10;", 0, 2, 0);
        fault("t9,0,0,0,0,0", 0, 1, 12);
        fault("t9,0,0,0,0,0;", 0, 2, 1);
        fault("u3", 0, 1, 2);
        fault("u3;", 0, 3, Cameras.NONE);
    }

    private static void endOfTheText() {
        Due.sentence("(0 for its letter; of an order that the text ends too early it is its length)");
        String order = "t12,-34,5,678,90,-123;";
        for (int length = 1; length < order.length(); length++) {
            fault(order.substring(0, length), 0, 1, length);
            fault("s;" + order.substring(0, length), 2, 1, length);
        }
        fault("s;g", 2, 1, 1);
        fault("s;g-", 2, 1, 2);
        fault("s;g-2", 2, 1, 3);
        fault("b", 0, 1, 1);
        fault("u9", 0, 1, 2);
        fault("g12345", 0, 1, 6);
        fault("g-12345", 0, 1, 7);
    }

    /** Each place of an order of a thing, with a character there that breaks it off. */
    private static void breaksInThings() {
        Due.sentence("of a fault with the reason 1 it is at which character of the order it breaks off");
        String order = "t1,9,-300,0,60,9;";
        for (int place = 0; place < order.length(); place++) {
            String broken = order.substring(0, place) + "x" + order.substring(place + 1);
            fault(broken, 0, 1, place);
            fault("s;g1;" + broken, 5, 1, place);
        }
        // a ";" breaks it off at each place but its last one
        for (int place = 0; place < order.length() - 1; place++) {
            fault(order.substring(0, place) + ";" + order.substring(place + 1), 0, 1, place);
        }
    }

    private static void breaksAnywhere() {
        Due.sentence("the \";\" that is missing included.");
        fault("ss;", 0, 1, 1);
        fault("g5s;", 0, 1, 2);
        fault("g55s;", 0, 1, 3);
        fault("g55555s;", 0, 1, 6);
        fault("g555555;", 0, 1, 6);
        fault("g-55555s;", 0, 1, 7);
        fault("b1b2;", 0, 1, 2);
        fault("t1,9,0,0,60,90s;", 0, 1, 14);
        fault("t1,9,0,0,60,90", 0, 1, 14);
        fault("t1,9,0,0,60,123456;", 0, 1, 17);
        fault("t123456,9,0,0,60,9;", 0, 1, 6);
        fault("t1,9,-123456,0,60,9;", 0, 1, 11);
    }

    private static void rangesOfTicks() {
        Due.sentence("2 if one of its numbers is out of its range");
        fault("g0;", 0, 2, 0);
        fault("g201;", 0, 2, 0);
        fault("g-1;", 0, 2, 0);
        fault("g-200;", 0, 2, 0);
        fault("g-0;", 0, 2, 0);
        sound("g1;", 1);
        sound("g2;", 1);
        sound("g199;", 1);
        sound("g200;", 1);
    }

    private static void rangesOfRows() {
        Due.sentence("2 if one of its numbers is out of its range");
        RowVotes x = new RowVotes();
        x.set(0, 1);
        fault(x, "b-1;", 0, 2, 0);
        fault(x, "b10;", 0, 2, 0);
        fault(x, "b32;", 0, 2, 0);
        fault(x, "u-1;", 0, 2, 0);
        fault(x, "u10;", 0, 2, 0);
        fault(x, "b0;u32;", 3, 2, 0);
        sound(x, "b0;b1;b8;b9;", 4);
        Due.is("rows that are blinded", x.count(3), 4);
        sound(x, "u0;u1;u8;u9;", 4);
        Due.is("rows that are blinded", x.count(3), 0);
    }

    private static String thing(int[] n) {
        StringBuilder text = new StringBuilder("t");
        for (int i = 0; i < n.length; i++) {
            text.append(i == 0 ? "" : ",").append(n[i]);
        }
        return text.append(';').toString();
    }

    private static void rangesOfThings() {
        Due.sentence("The cause of a fault with the reason 2 is which of the numbers of the order it is, from 0, "
            + "the first one that is out of its range");
        int[][] ranges = {{0, 9}, {0, 9}, {-20000, 20000}, {-200, 200}, {50, 1600}, {0, 255}};
        for (int which = 0; which < 6; which++) {
            int least = ranges[which][0];
            int most = ranges[which][1];
            for (int value : new int[] {least - 1, least, least + 1, most - 1, most, most + 1}) {
                int[] numbers = {0, 9, 0, 0, 100, 200};
                numbers[which] = value;
                if (value < least || value > most) {
                    fault(thing(numbers), 0, 2, which);
                } else {
                    RowVotes x = new RowVotes();
                    sound(x, thing(numbers), 1);
                    Due.is("the number " + which + " of " + thing(numbers), x.thingOf(0, which), value);
                }
            }
        }
    }

    private static void bottomAboveTop() {
        Due.sentence("(a bottom row that is above the top one is out of it)");
        fault("t5,4,0,0,50,0;", 0, 2, 1);
        sound("t5,5,0,0,50,0;", 1);
        sound("t5,6,0,0,50,0;", 1);
        fault("t9,8,0,0,50,0;", 0, 2, 1);
        sound("t9,9,0,0,50,0;", 1);
        fault("t9,10,0,0,50,0;", 0, 2, 1);
        fault("t9,0,0,0,50,0;", 0, 2, 1);
        sound("t0,0,0,0,50,0;", 1);
        fault("t0,-1,0,0,50,0;", 0, 2, 1);
        fault("t10,9,0,0,50,0;", 0, 2, 0);
        fault("t10,10,0,0,50,0;", 0, 2, 0);
        fault("t-1,-2,0,0,50,0;", 0, 2, 0);
    }

    private static void firstNumberOutOfRange() {
        Due.sentence("the first one that is out of its range");
        int[] wrong = {10, 10, 20001, 201, 49, 256};
        for (int first = 0; first < 6; first++) {
            int[] numbers = {0, 9, 0, 0, 100, 200};
            for (int which = 5; which >= first; which--) {
                numbers[which] = wrong[which];
            }
            fault(thing(numbers), 0, 2, first);
        }
        fault("t3,2,20001,201,49,256;", 0, 2, 1);
        fault("t0,9,0,-201,1601,-1;", 0, 2, 3);
        fault("t0,9,0,0,50,-1;", 0, 2, 5);
    }

    private static void refusedThings() {
        Due.sentence("3 if it is not possible otherwise (by what thing, pass and blind tell), when those ahead of it are done.");
        sound(FOUR_THINGS, 4);
        fault(FOUR_THINGS + "t0,9,0,0,50,0;", 56, 3, Cameras.NONE);
        fault(FOUR_THINGS + "t0,9,0,0,50,256;", 56, 2, 5);
        fault(FOUR_THINGS + "t0,9,0,0,50,256", 56, 1, 15);
        for (int things = 1; things <= 4; things++) {
            RowVotes x = new RowVotes();
            for (int i = 0; i < things; i++) {
                x.thing(0, 9, 0, 0, 50, 0);
            }
            fault(x, FOUR_THINGS, 14 * (4 - things), 3, Cameras.NONE);
            sound(x, FOUR_THINGS.substring(0, 14 * (4 - things)), 4 - things);
            Due.is("things then", x.count(0), 4);
        }
    }

    private static void refusedTicks() {
        Due.sentence("3 if it is not possible otherwise (by what thing, pass and blind tell)");
        RowVotes x = new RowVotes();
        Cameras.passTo(x, 19800);
        fault(x, "g200;g1;", 5, 3, Cameras.NONE);
        fault(x, "g199;g2;", 5, 3, Cameras.NONE);
        fault(x, "g1;g200;", 3, 3, Cameras.NONE);
        fault(x, "g200;g201;", 5, 2, 0);
        fault(x, "g200;s;g1;", 7, 3, Cameras.NONE);
        sound(x, "g199;g1;s;", 3);
        Due.is("the time", x.count(2), 20000);
        Due.is("the frame's time", x.frameOf(0, 0), 20000);
        fault(x, "g1;", 0, 3, Cameras.NONE);
        fault(x, "g200;", 0, 3, Cameras.NONE);
        fault(x, "g0;", 0, 2, 0);
        sound(x, "s;", 1);
    }

    private static void refusedRows() {
        Due.sentence("3 if it is not possible otherwise (by what thing, pass and blind tell)");
        for (int row : new int[] {0, 1, 8, 9}) {
            RowVotes x = new RowVotes();
            fault(x, "u" + row + ";", 0, 3, Cameras.NONE);
            fault(x, "b" + row + ";b" + row + ";", 3, 3, Cameras.NONE);
            fault(x, "b" + row + ";u" + row + ";u" + row + ";", 6, 3, Cameras.NONE);
            sound(x, "b" + row + ";u" + row + ";b" + row + ";", 3);
            fault(x, "b" + row + ";", 0, 3, Cameras.NONE);
            fault(x, "u" + row + ";u" + row + ";", 3, 3, Cameras.NONE);
            sound(x, "u" + row + ";", 1);
            Due.is("row " + row, x.rowOf(row, 0), 0);
        }
        RowVotes x = new RowVotes();
        x.blind(3, 1);
        fault(x, "b4;b3;", 3, 3, Cameras.NONE);
        sound(x, "b4;u3;b3;", 3);
        Due.is("rows that are blinded", x.count(3), 2);
    }

    private static void refusedByWhatIsAhead() {
        Due.sentence("when those ahead of it are done.");
        RowVotes x = new RowVotes();
        fault(x, "b1;b1;", 3, 3, Cameras.NONE);
        Due.is("nothing was done", x.count(3), 0);
        fault(x, "t0,0,0,0,50,0;s;g5;u0;", 19, 3, Cameras.NONE);
        Due.is("no thing", x.count(0), 0);
        Due.is("no frame", x.count(1), 0);
        Due.is("no tick", x.count(2), 0);
        x.blind(0, 1);
        Due.is("it is possible now", x.fault(0), Cameras.NONE);
        x.undo();
        Due.is("it is not again", x.fault(0), 19);
        x.blind(0, 1);
        Due.is("play", x.play(), 4);
        Due.is("it is not, as row 0 is not blinded", x.fault(1), 3);
    }

    private static void formThenRangeThenRest() {
        Due.sentence("its reason is 1 if it is not of this form, its \";\" included, 2 if one of its numbers is out of its range, "
            + "and 3 if it is not possible otherwise");
        RowVotes x = new RowVotes();
        Cameras.passTo(x, 20000);
        fault(x, "g201", 0, 1, 4);
        fault(x, "g201;", 0, 2, 0);
        fault(x, "g200;", 0, 3, Cameras.NONE);
        fault(x, "u10", 0, 1, 3);
        fault(x, "u10;", 0, 2, 0);
        fault(x, "u9;", 0, 3, Cameras.NONE);
        // an order that is not possible otherwise comes before one that is not of the form
        fault(x, "u9;x", 0, 3, Cameras.NONE);
        fault(x, "u10;x", 0, 2, 0);
    }

    private static void whatOfAFault() {
        Due.sentence("- `what`: 0: its position; 1: its reason; 2: its cause");
        RowVotes x = new RowVotes();
        Cameras.write(x, "s;t3,2,0,0,50,0;");
        int[] due = {2, 2, 1};
        for (int what = 0; what <= 2; what++) {
            Due.is("fault(" + what + ")", x.fault(what), due[what]);
        }
        for (int what : new int[] {-1, 3, 4, Integer.MIN_VALUE, Integer.MAX_VALUE}) {
            Due.is("fault(" + what + ")", x.fault(what), Cameras.INVALID);
        }
        x.clearText();
        Due.is("fault(-1) of the empty text", x.fault(-1), Cameras.INVALID);
        Due.is("fault(3) of the empty text", x.fault(3), Cameras.INVALID);
    }

    private static void noFault() {
        Due.sentence("NOT_FOUND if the text has no fault (also if it is empty), for 2 if the reason is 3.");
        sound("", 0);
        sound("s;", 1);
        sound("b0;", 1);
        sound("t0,0,-20000,-200,50,0;t9,9,20000,200,1600,255;", 2);
        RowVotes x = new RowVotes();
        Cameras.write(x, "s");
        Due.is("a fault", x.fault(0), 0);
        x.type(';');
        Due.is("mended", x.fault(0), Cameras.NONE);
        x.type('x');
        Due.is("another fault", x.fault(0), 2);
        x.clearText();
        Due.is("empty", x.fault(0), Cameras.NONE);
    }

    private static void noCauseOfReasonThree() {
        Due.sentence("for 2 if the reason is 3.");
        RowVotes x = new RowVotes();
        Cameras.write(x, "g0;");
        Due.is("the cause with the reason 2", x.fault(2), 0);
        Cameras.write(x, "u0;");
        Due.is("the place with the reason 3", x.fault(0), 0);
        Due.is("the reason 3", x.fault(1), 3);
        Due.is("the cause with the reason 3", x.fault(2), Cameras.NONE);
        Cameras.write(x, "u0");
        Due.is("the cause with the reason 1", x.fault(2), 2);
    }

    private static void playWithoutOrders() {
        Due.sentence("They are one change, also if there are none.");
        RowVotes x = new RowVotes();
        Due.is("play without a text", x.play(), 0);
        Due.is("a state", x.count(6), 1);
        Due.is("play again", x.play(), 0);
        Due.is("two states", x.count(6), 2);
        for (int i = 0; i < 3; i++) {
            x.play();
        }
        Due.is("four states", x.count(6), 4);
        Due.is("undo", x.undo(), 3);
        Cameras.write(x, "s;");
        Due.is("one order", x.play(), 1);
        Due.is("four states again", x.count(6), 4);
        Due.is("undo", x.undo(), 3);
        Due.is("no frame", x.count(1), 0);
    }

    private static void playIsOneChange() {
        Due.sentence("Does all orders of the text, which stays. They are one change");
        RowVotes x = new RowVotes();
        Cameras.write(x, "t0,9,0,100,100,200;s;g1;s;g1;s;b1;b2;u1;s;g100;");
        Due.is("play", x.play(), 11);
        Due.is("one state", x.count(6), 1);
        Due.is("the text stays", x.count(7), 47);
        Due.is("things", x.count(0), 1);
        Due.is("frames", x.count(1), 4);
        Due.is("the time", x.count(2), 102);
        Due.is("blinded", x.count(3), 1);
        Due.is("the shift", x.shift(0, 1), 1);
        Due.is("undo", x.undo(), 0);
        Due.is("no things", x.count(0), 0);
        Due.is("no frames", x.count(1), 0);
        Due.is("no frames taken", x.count(4), 0);
        Due.is("the time 0", x.count(2), 0);
        Due.is("none blinded", x.count(3), 0);
        Due.is("the text stays", x.count(7), 47);
        Due.is("play once more", x.play(), 11);
    }

    private static void playWithAFault() {
        Due.sentence("Returns how many there are in it; NOT_POSSIBLE if it has a fault.");
        String[] texts = {"x", "s;s;s", "s;g0;", "s;b1;b1;", FOUR_THINGS + "t0,9,0,0,50,0;", "g200;u5;"};
        for (String text : texts) {
            RowVotes x = new RowVotes();
            Cameras.write(x, text);
            Due.is("play of " + text, x.play(), Cameras.IMPOSSIBLE);
            Due.is("no state", x.count(6), 0);
            Due.is("no thing, frame, tick or blinded row", x.count(0) + x.count(1) + x.count(2) + x.count(3) + x.count(4), 0);
            Due.is("the text stays", x.count(7), text.length());
        }
        sound("", 0);
        sound("s;", 1);
        sound("s;s;", 2);
    }

    private static void playedInOrder() {
        Due.sentence("Does all orders of the text");
        RowVotes x = new RowVotes();
        sound(x, "s;t0,9,0,0,100,200;s;g3;s;b0;s;u0;s;b5;s;", 11);
        Due.is("six were taken", x.count(4), 6);
        Due.is("five are kept", x.count(1), 5);
        int[] times = {0, 3, 3, 3, 3};
        int[] blinded = {0, 0, 1, 0, 32};
        for (int frame = 0; frame < 5; frame++) {
            Due.is("time of " + frame, x.frameOf(frame, 0), times[frame]);
            Due.is("blinded rows of " + frame, x.frameOf(frame, 1), blinded[frame]);
            Due.is("the thing in " + frame, x.pixel(frame, 1, 0), 200);
        }
    }

    private static void playedAgain() {
        Due.sentence("Does all orders of the text, which stays.");
        RowVotes x = new RowVotes();
        Cameras.write(x, "t0,9,0,0,100,200;g100;s;");
        for (int i = 1; i <= 4; i++) {
            Due.is("play " + i, x.play(), 3);
            Due.is("things", x.count(0), i);
            Due.is("the time", x.count(2), 100 * i);
        }
        Due.is("a fifth thing", x.play(), Cameras.IMPOSSIBLE);
        Due.is("its place", x.fault(0), 0);
        Due.is("its reason", x.fault(1), 3);
        x.undo();
        Due.is("without the fourth thing", x.play(), 3);
    }
}
