/** Promises 1 to 8: a new object, the text, its fault, the band that is laid. */
public final class BandsTest {
    private static final int[] WILD = {-1, -2, 7, 8, 9, 100, Integer.MIN_VALUE, Integer.MAX_VALUE};

    private BandsTest() {
    }

    public static void main(String[] args) {
        newObject();
        write();
        wipe();
        faultOfForm();
        faultOfNumbers();
        faultOfCounts();
        lay();
        layBeginsAnew();
        layRefused();
        instrument();
        seats();
        asked();
        Check.finish();
    }

    private static void newObject() {
        SecondOboe x = new SecondOboe();
        int[] counts = {5, 4, 1, 0, 0, 0, 0, 0};
        for (int what = 0; what < counts.length; what++) {
            Check.due("new: count(" + what + ")", counts[what], x.count(what));
        }
        int[][] told = {{0, 0, 2}, {1, 2, 5}, {2, 0, 3}, {3, 3, 4}, {1, 0, 6}};
        int[] sitting = {2, 0, 1, 3, 4};
        int[] asks = {31, 21, 14, 27};
        for (int i = 0; i < 5; i++) {
            for (int what = 0; what < 3; what++) {
                Check.due("new: instrument(" + i + ", " + what + ")", told[i][what], x.instrument(i, what));
            }
            Check.due("new: seat(" + i + ")", sitting[i], x.seat(i));
        }
        for (int bar = 0; bar < 4; bar++) {
            Check.due("new: asked(" + bar + ")", asks[bar], x.asked(bar));
        }
        Check.due("new: fault", SecondOboe.NONE, x.fault());
        Check.due("new: lay of no text", SecondOboe.NO, x.lay());
        Check.due("new: still five", 5, x.count(0));
        Check.due("new: undo", SecondOboe.NO, x.undo());
        Check.due("new: back", SecondOboe.NO, x.back());
    }

    private static void write() {
        SecondOboe x = new SecondOboe();
        int[] bad = {31, 127, 0, -1, 128, 65536 + 65, Integer.MIN_VALUE, Integer.MAX_VALUE};
        for (int letter : bad) {
            Check.due("write(" + letter + ")", SecondOboe.BAD, x.write(letter));
        }
        Check.due("write(32)", 1, x.write(32));
        Check.due("write(126)", 2, x.write(126));
        for (int k = 3; k <= 200; k++) {
            Check.due("write the letter " + k, k, x.write('a'));
        }
        Check.due("write to a full text", SecondOboe.FULL, x.write('a'));
        Check.due("write no letter to a full text", SecondOboe.BAD, x.write(31));
        Check.due("length of a full text", 200, x.count(7));
    }

    private static void wipe() {
        SecondOboe x = Check.written("abc");
        Check.due("wipe", 3, x.wipe());
        Check.due("wipe again", 0, x.wipe());
        Check.due("length wiped", 0, x.count(7));
        Check.due("fault wiped", SecondOboe.NONE, x.fault());
        Check.due("write wiped", 1, x.write('g'));
        Check.due("an item cut short", 0, x.fault());
        Check.write(x, "0;");
        Check.due("an item whole", SecondOboe.NONE, x.fault());
    }

    private static void fault(String text, int want) {
        SecondOboe x = Check.written(text);
        Check.due("fault of " + text, want, x.fault());
        Check.due("length behind the fault of " + text, text.length(), x.count(7));
    }

    private static void faultOfForm() {
        String none = "i0,0,0;";
        fault("", SecondOboe.NONE);
        fault(none, SecondOboe.NONE);
        fault("i00,00,09;", SecondOboe.NONE);
        String[] bad = {"i", "i0", "i0,", "i0,0", "i0,0,", "i0,0,0", "i0,0;", "i0;", "i0,0,0,", "i0,0,0,0;",
            "i000,0,0;", "i0,000,0;", "i0,0,000;", "i,0,0;", "i0,,0;", "i0,0,;", "i 0,0,0;", "i0 ,0,0;", "i0;0;0;",
            "i0,0,0 ;", "I0,0,0;", "0,0,0;", ";", ",", " ", "x0;", "i-1,0,0;", "b", "b0;", "b0,0", "b0,0,0;", "b,0;",
            "b000,0;", "b0,000;", "s", "s;", "s0", "s0,", "s0,0;", "s000;", "g", "g;", "g0", "g0,0;", "g000;", "gg0;",
            "i/,0,0;", "i:,0,0;", "i0/0,0;"};
        for (String item : bad) {
            fault(item, 0);
            fault(none + item, none.length());
            fault(none + "g1;" + item + none, none.length() + 3);
        }
        fault("g0;g1", 3);
        fault("g0;;", 3);
        fault("g0; g1;", 3);
        fault("g0;x;y", 3);
    }

    private static void faultOfNumbers() {
        fault("i3,6,30;", SecondOboe.NONE);
        fault("i4,0,0;", 0);
        fault("i10,0,0;", 0);
        fault("i0,7,0;", 0);
        fault("i0,10,0;", 0);
        fault("i0,0,31;", 0);
        fault("i0,0,99;", 0);
        fault("b15,7;", SecondOboe.NONE);
        fault("b0,0;", SecondOboe.NONE);
        fault("b16,0;", 0);
        fault("b0,8;", 0);
        fault("b0,10;", 0);
        fault("g5;", SecondOboe.NONE);
        fault("g05;", SecondOboe.NONE);
        fault("g6;", 0);
        fault("g10;", 0);
        fault("s0;", 0);
        fault("s0;i0,0,0;", 0);
        fault("i0,0,0;s0;", SecondOboe.NONE);
        fault("i0,0,0;s0;s0;s00;", SecondOboe.NONE);
        fault("i0,0,0;s1;i0,0,0;", 7);
        fault("i0,0,0;s0;i0,0,0;s1;", SecondOboe.NONE);
        fault("g3;g3;g3;", SecondOboe.NONE);
    }

    private static void faultOfCounts() {
        String seven = "i0,0,0;".repeat(7);
        fault(seven, SecondOboe.NONE);
        fault(seven + "i0,0,0;", 49);
        fault(seven + "s6;", SecondOboe.NONE);
        fault(seven + "s7;", 49);
        String eight = "b1,0;".repeat(8);
        fault(eight, SecondOboe.NONE);
        fault(eight + "b1,0;", 40);
        fault("s0;" + eight, 0);
        fault("g0;".repeat(60), SecondOboe.NONE);
    }

    private static void lay() {
        SecondOboe x = Check.laid("i1,2,30;g5;g0;b5,0;i2,1,0;i3,1,7;b0,0;s2;s2;s0;g0;g5;");
        int[] counts = {3, 2, 2, 0, 0, 0, 0, 53};
        for (int what = 0; what < counts.length; what++) {
            Check.due("laid: count(" + what + ")", counts[what], x.count(what));
        }
        int[] sitting = {2, 0, 1};
        for (int s = 0; s < 3; s++) {
            Check.due("laid: seat(" + s + ")", sitting[s], x.seat(s));
        }
        Check.due("laid: no seat 3", SecondOboe.BAD, x.seat(3));
        Check.due("laid: nobody beside 2 by the gap", 0, x.instrument(2, 5));
        Check.due("laid: 1 beside 0", 2, x.instrument(0, 5));
        Check.due("laid again", 3, x.lay());
        SecondOboe untold = Check.laid("i0,0,0;i0,0,0;i0,0,0;i0,0,0;s3;s1;");
        int[] behind = {3, 1, 0, 2};
        for (int s = 0; s < 4; s++) {
            Check.due("those not told sit behind, seat " + s, behind[s], untold.seat(s));
        }
    }

    private static void layBeginsAnew() {
        SecondOboe x = Check.laid("i0,0,1;i0,1,2;b3,0;");
        x.keep();
        x.bribe(0);
        x.change(0, 1);
        x.heard(0, 0, 1);
        Check.due("laid anew", 2, x.lay());
        for (int what = 3; what < 7; what++) {
            Check.due("laid anew: count(" + what + ")", 0, x.count(what));
        }
        Check.due("laid anew: the text stays", 19, x.count(7));
        Check.due("laid anew: seat(0)", 0, x.seat(0));
        Check.due("laid anew: undo", SecondOboe.NO, x.undo());
        Check.due("laid anew: back", SecondOboe.NO, x.back());
        Check.due("laid anew: forget", 0, x.forget());
    }

    private static void layRefused() {
        String[] no = {"", "b0,0;", "g0;", "i0,1,0;", "i0,0,0;i0,2,0;", "i0,0,0;b2,0;", "i0,0,0;b1,1;", "b1,0;",
            "i0,0,0;x", "i0,0,0;b1,0", "i0,0,0;i0,0,0;i0,0,0;i0,0,0;b15,1;"};
        for (String text : no) {
            SecondOboe x = new SecondOboe();
            x.keep();
            x.bribe(3);
            x.change(0, 4);
            x.heard(0, 0, 1);
            Check.write(x, text);
            Check.due("lay of " + text, SecondOboe.NO, x.lay());
            int[] counts = {5, 4, 1, 1, 1, 2, 1, text.length()};
            for (int what = 0; what < counts.length; what++) {
                Check.due("refused " + text + ": count(" + what + ")", counts[what], x.count(what));
            }
            Check.due("refused " + text + ": seat(0)", 4, x.seat(0));
            Check.due("refused " + text + ": asked(0)", 31, x.asked(0));
        }
        Check.due("asked ahead of being told", 1, Check.laid("b1,0;i0,0,0;").count(1));
        Check.due("minds one told later", 1, Check.laid("i0,1,0;i0,0,0;").instrument(0, 1));
        Check.due("no bar at all", 0, Check.laid("i0,0,0;").count(1));
    }

    private static void instrument() {
        SecondOboe x = new SecondOboe();
        int[] seatOf = {1, 2, 0, 3, 4};
        int[] beside = {6, 1, 1, 16, 8};
        for (int i = 0; i < 5; i++) {
            Check.due("instrument(" + i + ", 3)", seatOf[i], x.instrument(i, 3));
            Check.due("instrument(" + i + ", 4)", 0, x.instrument(i, 4));
            Check.due("instrument(" + i + ", 5)", beside[i], x.instrument(i, 5));
        }
        x.bribe(2);
        x.change(1, 4);
        Check.due("bribed now", 1, x.instrument(2, 4));
        Check.due("another not bribed", 0, x.instrument(1, 4));
        Check.due("moved", 4, x.instrument(0, 3));
        Check.due("moved beside 3", 8, x.instrument(0, 5));
        Check.due("a new neighbour", 16, x.instrument(2, 5));
        for (int wild : WILD) {
            Check.due("instrument(" + wild + ", 0)", SecondOboe.BAD, x.instrument(wild, 0));
            Check.due("instrument(0, " + wild + ")", SecondOboe.BAD, x.instrument(0, wild));
        }
        Check.due("instrument(5, 0)", SecondOboe.BAD, x.instrument(5, 0));
        Check.due("instrument(0, 6)", SecondOboe.BAD, x.instrument(0, 6));
        Check.due("alone", 0, Check.laid("i0,0,0;g0;").instrument(0, 5));
    }

    private static void seats() {
        SecondOboe x = new SecondOboe();
        Check.due("seat(5)", SecondOboe.BAD, x.seat(5));
        for (int wild : WILD) {
            Check.due("seat(" + wild + ")", SecondOboe.BAD, x.seat(wild));
        }
        SecondOboe seven = Check.laid("i0,0,0;".repeat(7) + "s6;");
        Check.due("seat(0) of seven", 6, seven.seat(0));
        Check.due("seat(6) of seven", 5, seven.seat(6));
    }

    private static void asked() {
        SecondOboe x = new SecondOboe();
        Check.due("asked(4)", SecondOboe.BAD, x.asked(4));
        for (int wild : WILD) {
            Check.due("asked(" + wild + ")", SecondOboe.BAD, x.asked(wild));
        }
        SecondOboe seven = Check.laid("i0,0,0;".repeat(7) + "b15,7;b0,4;b8,0;b0,0;b1,1;b0,0;b0,0;b9,2;");
        int[] want = {127, 64, 8, 0, 17, 0, 0, 41};
        for (int bar = 0; bar < want.length; bar++) {
            Check.due("asked(" + bar + ") of eight", want[bar], seven.asked(bar));
        }
        Check.due("asked without a bar", SecondOboe.BAD, Check.laid("i0,0,0;").asked(0));
    }
}
