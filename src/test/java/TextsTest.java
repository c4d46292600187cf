/** Promises 30 to 33: texts. */
public final class TextsTest {
    private static final int INVALID = -10000001;
    private static final int IMPOSSIBLE = -10000002;
    private static final int LIMIT = -10000003;
    private static final int NONE = -10000004;

    public static void main(String[] args) {
        promise30();
        promise31();
        promise32None();
        promise32Form();
        promise32Numbers();
        promise32Refused();
        promise32First();
        promise33();
        promise33Change();
        promise33Frames();
        Due.end();
    }

    private static void write(RowVotes x, String text) {
        x.clearText();
        for (int i = 0; i < text.length(); i++) {
            x.type(text.charAt(i));
        }
    }

    /** The fault of a text, NOT_FOUND if there is none; then the text is played. */
    private static void dueFault(RowVotes x, String text, int place, int reason, int cause) {
        write(x, text);
        int[] before = {x.count(0), x.count(1), x.count(2), x.count(3), x.count(4), x.count(6)};
        Due.is("32: place in " + text, x.fault(0), place);
        Due.is("32: reason in " + text, x.fault(1), reason);
        Due.is("32: cause in " + text, x.fault(2), cause);
        int[] after = {x.count(0), x.count(1), x.count(2), x.count(3), x.count(4), x.count(6)};
        for (int i = 0; i < before.length; i++) {
            Due.is("32: fault changes nothing", after[i], before[i]);
        }
        Due.is("32: nor the text", x.count(7), text.length());
        int orders = 0;
        for (int i = 0; i < text.length(); i++) {
            orders += text.charAt(i) == ';' ? 1 : 0;
        }
        Due.is("33: play of " + text, x.play(), place == NONE ? orders : IMPOSSIBLE);
    }

    private static void dueFault(String text, int place, int reason, int cause) {
        dueFault(new RowVotes(), text, place, reason, cause);
    }

    private static void promise30() {
        RowVotes x = new RowVotes();
        Due.is("30: type(31)", x.type(31), INVALID);
        Due.is("30: type(127)", x.type(127), INVALID);
        Due.is("30: type(-1)", x.type(-1), INVALID);
        Due.is("30: type(65651)", x.type(65651), INVALID);
        Due.is("30: type(32)", x.type(32), 1);
        Due.is("30: type(126)", x.type(126), 2);
        for (int i = 3; i <= 80; i++) {
            Due.is("30: character " + i, x.type(';'), i);
        }
        Due.is("30: character 81", x.type(';'), LIMIT);
        Due.is("30: wrong character 81", x.type(127), INVALID);
        Due.is("30: the length", x.count(7), 80);
        Due.is("30: no change", x.count(6), 0);
    }

    private static void promise31() {
        RowVotes x = new RowVotes();
        Due.is("31: an empty text", x.clearText(), 0);
        write(x, "s;g5");
        Due.is("31: a text", x.clearText(), 4);
        Due.is("31: it is empty", x.count(7), 0);
        Due.is("31: no fault is left", x.fault(0), NONE);
        x.type('x');
        Due.is("31: a new text", x.fault(0), 0);
        Due.is("31: no change", x.count(6), 0);
    }

    private static void promise32None() {
        String[] sound = {"", "s;", "g1;", "g200;", "b0;b9;u0;", "t0,0,0,0,50,0;", "t9,9,-20000,-200,1600,255;",
            "t0,9,20000,200,100,-0;", "g00007;", "b-00;", "t00,00005,-00,-00200,00050,00255;",
            "t0,9,0,0,50,0;t0,9,0,0,50,0;t0,9,0,0,50,0;t0,9,0,0,50,0;", "b3;u3;b3;u3;"};
        for (String text : sound) {
            dueFault(text, NONE, NONE, NONE);
        }
        RowVotes x = new RowVotes();
        Due.is("32: fault(3)", x.fault(3), INVALID);
        Due.is("32: fault(-1)", x.fault(-1), INVALID);
        x.type('x');
        Due.is("32: fault(3) with a fault", x.fault(3), INVALID);
    }

    private static void promise32Form() {
        dueFault("x", 0, 1, 0);
        dueFault(";", 0, 1, 0);
        dueFault(" s;", 0, 1, 0);
        dueFault("S;", 0, 1, 0);
        dueFault("s", 0, 1, 1);
        dueFault("s5;", 0, 1, 1);
        dueFault("s ;", 0, 1, 1);
        dueFault("g", 0, 1, 1);
        dueFault("g;", 0, 1, 1);
        dueFault("g-", 0, 1, 2);
        dueFault("g-;", 0, 1, 2);
        dueFault("g--5;", 0, 1, 2);
        dueFault("g+5;", 0, 1, 1);
        dueFault("g5", 0, 1, 2);
        dueFault("g5,", 0, 1, 2);
        dueFault("g5s;", 0, 1, 2);
        dueFault("g00000", 0, 1, 6);
        dueFault("g000001;", 0, 1, 6);
        dueFault("g-000001;", 0, 1, 7);
        dueFault("b", 0, 1, 1);
        dueFault("bx;", 0, 1, 1);
        dueFault("u1 ;", 0, 1, 2);
        dueFault("t", 0, 1, 1);
        dueFault("t,", 0, 1, 1);
        dueFault("t1;", 0, 1, 2);
        dueFault("t1,", 0, 1, 3);
        dueFault("t1,,2;", 0, 1, 3);
        dueFault("t1,2,3,4,5;", 0, 1, 10);
        dueFault("t1,2,3,4,5,6", 0, 1, 12);
        dueFault("t1,2,3,4,5,6,7;", 0, 1, 12);
        dueFault("t1 ,2,3,4,5,6;", 0, 1, 2);
        dueFault("s;s;g", 4, 1, 1);
        dueFault("g5;s;s", 5, 1, 1);
        dueFault("s; s;", 2, 1, 0);
        dueFault("s;;", 2, 1, 0);
        dueFault("g999", 0, 1, 4);
        dueFault("t10,0,0,0,0,999", 0, 1, 15);
    }

    private static void promise32Numbers() {
        dueFault("g0;", 0, 2, 0);
        dueFault("g-0;", 0, 2, 0);
        dueFault("g201;", 0, 2, 0);
        dueFault("g-1;", 0, 2, 0);
        dueFault("g99999;", 0, 2, 0);
        dueFault("b10;", 0, 2, 0);
        dueFault("b-1;", 0, 2, 0);
        dueFault("u10;", 0, 2, 0);
        dueFault("u-1;", 0, 2, 0);
        dueFault("t-1,0,0,0,50,0;", 0, 2, 0);
        dueFault("t10,10,0,0,50,0;", 0, 2, 0);
        dueFault("t3,2,0,0,50,0;", 0, 2, 1);
        dueFault("t3,10,0,0,50,0;", 0, 2, 1);
        dueFault("t3,3,20001,0,50,0;", 0, 2, 2);
        dueFault("t3,3,-20001,0,50,0;", 0, 2, 2);
        dueFault("t3,3,0,201,50,0;", 0, 2, 3);
        dueFault("t3,3,0,-201,50,0;", 0, 2, 3);
        dueFault("t3,3,0,0,49,0;", 0, 2, 4);
        dueFault("t3,3,0,0,1601,0;", 0, 2, 4);
        dueFault("t3,3,0,0,50,256;", 0, 2, 5);
        dueFault("t3,3,0,0,50,-1;", 0, 2, 5);
        dueFault("t3,2,0,999,0,999;", 0, 2, 1);
        dueFault("s;g5;b11;x", 5, 2, 0);
    }

    private static void promise32Refused() {
        dueFault("u0;", 0, 3, NONE);
        dueFault("b0;b0;", 3, 3, NONE);
        dueFault("b0;u0;u0;", 6, 3, NONE);
        dueFault("t0,9,0,0,50,0;t0,9,0,0,50,0;t0,9,0,0,50,0;t0,9,0,0,50,0;t0,9,0,0,50,0;", 56, 3, NONE);
        dueFault("t0,9,0,0,50,0;t0,9,0,0,50,0;t0,9,0,0,50,0;t0,9,0,0,50,0;t0,9,0,0,50,-1;", 56, 2, 5);
        RowVotes x = new RowVotes();
        x.blind(4, 1);
        dueFault(x, "b4;", 0, 3, NONE);
        dueFault(x, "u4;u4;", 3, 3, NONE);
        for (int i = 0; i < 99; i++) {
            x.pass(200);
        }
        dueFault(x, "g200;g1;", 5, 3, NONE);
        dueFault(x, "g100;g101;", 5, 3, NONE);
        dueFault(x, "g200;s;", NONE, NONE, NONE);
        Due.is("32: fault for 2 with the reason 3", x.fault(2), NONE);
        Due.is("32: the same text once more", x.fault(0), 0);
        Due.is("32: now it is too late", x.fault(1), 3);
        x.undo();
        Due.is("32: undone, it is not", x.fault(1), NONE);
    }

    private static void promise32First() {
        dueFault("b0;b0;g0;x", 3, 3, NONE);
        dueFault("g0;u0;", 0, 2, 0);
        dueFault("s;x;u0;", 2, 1, 0);
    }

    private static void promise33() {
        RowVotes x = new RowVotes();
        write(x, "t0,5,100,20,200,90;s;g5;s;b3;b4;u3;");
        Due.is("33: seven orders", x.play(), 7);
        Due.is("33: a thing", x.count(0), 1);
        int[] thing = {0, 5, 100, 20, 200, 90, 200};
        for (int what = 0; what < 7; what++) {
            Due.is("33: thingOf(0, " + what + ")", x.thingOf(0, what), thing[what]);
        }
        Due.is("33: two frames", x.count(1), 2);
        Due.is("33: two frames taken", x.count(4), 2);
        Due.is("33: the first one's time", x.frameOf(0, 0), 0);
        Due.is("33: the second one's time", x.frameOf(1, 0), 5);
        Due.is("33: what has moved between them", x.shift(0, 1), 1);
        Due.is("33: nothing was blinded", x.frameOf(1, 1), 0);
        Due.is("33: one row is blinded", x.count(3), 1);
        Due.is("33: row 4", x.rowOf(4, 0), 1);
        Due.is("33: the text stays", x.count(7), 35);
        Due.is("33: one change", x.count(6), 1);
        Due.is("33: it is not possible again", x.play(), IMPOSSIBLE);
        Due.is("33: it changes nothing then", x.count(1), 2);
        Due.is("33: nor does it record a state", x.count(6), 1);
        Due.is("33: undo()", x.undo(), 0);
        Due.is("33: all is undone", x.count(0) + x.count(1) + x.count(2) + x.count(3) + x.count(4), 0);
        Due.is("33: the text is still there", x.play(), 7);
        Due.is("33: with its frames", x.shift(0, 1), 1);
    }

    private static void promise33Change() {
        RowVotes x = new RowVotes();
        Due.is("33: an empty text", x.play(), 0);
        Due.is("33: it is a change", x.count(6), 1);
        x.type('s');
        Due.is("33: a fault", x.play(), IMPOSSIBLE);
        Due.is("33: it is no change", x.count(6), 1);
        x.type(';');
        Due.is("33: one order", x.play(), 1);
        Due.is("33: a change", x.count(6), 2);
        Due.is("33: undo()", x.undo(), 1);
        Due.is("33: the frame is gone", x.count(1), 0);
        Due.is("33: undo() again", x.undo(), 0);
        Due.is("33: nothing is left", x.undo(), IMPOSSIBLE);
    }

    private static void promise33Frames() {
        RowVotes x = new RowVotes();
        write(x, "g1;s;g1;s;g1;s;g1;s;g1;s;g1;s;g1;s;");
        Due.is("33: fourteen orders", x.play(), 14);
        Due.is("33: the latest five frames", x.count(1), 5);
        Due.is("33: of seven", x.count(4), 7);
        Due.is("33: the oldest one", x.frameOf(0, 0), 3);
        Due.is("33: the latest one", x.frameOf(4, 0), 7);
        Due.is("33: one change", x.undo(), 0);
        Due.is("33: no frame", x.count(1), 0);
        write(x, "s;s;s;s;s;s;s;s;s;s;s;s;s;s;s;s;s;s;s;s;s;s;s;s;s;s;s;s;s;s;s;s;s;s;s;s;s;s;s;s;");
        Due.is("33: eighty characters", x.count(7), 80);
        Due.is("33: forty orders", x.play(), 40);
        Due.is("33: forty frames taken", x.count(4), 40);
    }
}
