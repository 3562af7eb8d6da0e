/** What it is: each sentence about THE TEXT that names a boundary, on it and one beyond. Wants are reckoned by hand. */
public final class TextEdgesTest {
    private static final int NONE = SecondOboe.NONE;
    private static final String SEVEN = "i0,0,0;".repeat(7);
    private static final String EIGHT = "b15,7;".repeat(8);

    private TextEdgesTest() {
    }

    public static void main(String[] args) {
        letters();
        itemsOneBehindTheOther();
        eachALetter();
        figures();
        partedByCommas();
        closedBySemicolon();
        kinds();
        minded();
        prices();
        sevenInstruments();
        lowBits();
        highBits();
        eightBars();
        toldAhead();
        nextSeat();
        notTold();
        gaps();
        gapsToldAgain();
        gapsBeyond();
        firstFault();
        Check.finish();
    }

    private static void fault(String text, int want) {
        Check.due("fault of " + text, want, Check.written(text).fault());
    }

    /** An item that is so, and one that is not: ahead, between and behind others. */
    private static void good(String... items) {
        for (String item : items) {
            fault(item, NONE);
            fault("g0;" + item + "g1;", NONE);
        }
    }

    private static void bad(String... items) {
        for (String item : items) {
            fault(item, 0);
            fault("g0;" + item, 3);
            fault("g0;i0,0,0;" + item + "g1;", 10);
        }
    }

    private static void letters() {
        Check.edge("letters (200 at most)");
        SecondOboe x = Check.written(SEVEN + EIGHT + "g0;".repeat(33) + "s00");
        Check.due("199 letters, the last item open", 196, x.fault());
        Check.due("lay of it", SecondOboe.NO, x.lay());
        Check.due("letter 200", 200, x.write(';'));
        Check.due("letter 201", SecondOboe.FULL, x.write(';'));
        Check.due("letter 202", SecondOboe.FULL, x.write(32));
        Check.due("200 letters", 200, x.count(7));
        Check.due("what was refused is not in the text", NONE, x.fault());
        Check.due("lay of 200 letters", 7, x.lay());
        Check.due("bars of 200 letters", 8, x.count(1));
        Check.due("wipe of 200 letters", 200, x.wipe());
        Check.due("room again", 1, x.write('g'));
        Check.edge("letters (200 at most): none");
        fault("", NONE);
    }

    private static void itemsOneBehindTheOther() {
        Check.edge("ITEMS one behind the other");
        fault("g0;g1;g2;", NONE);
        fault(" g0;", 0);
        fault("g0; ", 3);
        fault("g0; g1;", 3);
        fault("g0;;g1;", 3);
        fault("g0;,g1;", 3);
        fault("g0;1;", 3);
    }

    private static void eachALetter() {
        Check.edge("each a letter, then numbers");
        bad("0;", ";", ",", "0,0,0;", "h0;", "j0,0,0;", "a0,0;", "c0,0;", "f0;", "r0;", "t0;", "I0,0,0;", "B0,0;", "S0;", "G0;",
            "gg0;", "0g;", "`0;", "@0;", "{0;", "~");
        for (int letter = 32; letter <= 126; letter++) {
            String item = (char) letter + "0;";
            fault("i0,0,0;" + item, letter == 's' || letter == 'g' ? NONE : 7);
        }
    }

    private static void figures() {
        Check.edge("numbers (one or two figures)");
        good("i0,0,0;", "i00,00,00;", "i03,06,09;", "b0,0;", "b00,00;", "b09,07;", "g0;", "g00;", "g05;");
        fault("i0,0,0;s0;s00;", NONE);
        Check.edge("numbers (one or two figures): none");
        bad("i,0,0;", "i0,,0;", "i0,0,;", "b,0;", "b0,;", "s;", "g;");
        Check.edge("numbers (one or two figures): three");
        bad("i000,0,0;", "i0,000,0;", "i0,0,000;", "i0,0,030;", "b000,0;", "b015,0;", "b0,000;", "b0,007;",
            "s000;", "g000;", "g005;");
        Check.edge("numbers (one or two figures): signs beside the figures in ASCII, and others");
        bad("g/;", "g:;", "g0/;", "g0:;", "g-0;", "g+1;", "g 1;", "g1 ;", "ga;", "gA;", "g0x1;", "i0,0,1e;");
    }

    private static void partedByCommas() {
        Check.edge("parted by ,");
        bad("i0;", "i0,0;", "b0;", "i0.0,0;", "i0,0.0;", "b0.0;", "b0;0;", "i0;0;0;", "i0,,0,0;", "b0,,0;", "i,0,0,0;", "g,0;");
        Check.edge("parted by ,: one more number");
        bad("i0,0,0,0;", "b0,0,0;", "g0,0;", "s0,0;");
    }

    private static void closedBySemicolon() {
        Check.edge("and a ; behind the last one");
        bad("i0,0,0,;", "b0,0,;", "g0,;");
        fault("i0,0,0", 0);
        fault("g0;i0,0,00", 3);
        fault("g0;b0,0", 3);
        fault("g0;b0,", 3);
        fault("g0;g5", 3);
        fault("g0;g", 3);
        fault("i0,0,0i0,0,0;", 0);
        fault("g0g1;", 0);
        fault("g0:", 0);
    }

    private static void kinds() {
        Check.edge("KIND K (0 PLAIN, 1 SULKING, 2 LOYAL, 3 SHY)");
        good("i0,0,0;", "i1,0,0;", "i2,0,0;", "i3,0,0;", "i03,0,0;");
        bad("i4,0,0;", "i04,0,0;", "i9,0,0;", "i10,0,0;", "i13,0,0;", "i99,0,0;");
    }

    private static void minded() {
        Check.edge("that minds INSTRUMENT X (0 to 6");
        good("i0,0,0;", "i0,6,0;", "i0,06,0;");
        bad("i0,7,0;", "i0,07,0;", "i0,10,0;", "i0,16,0;", "i0,99,0;");
        Check.edge("that minds INSTRUMENT X (itself, too)");
        SecondOboe x = Check.laid("i1,0,0;i2,1,0;b3,0;b3,0;");
        Check.due("0 minds itself", 0, x.instrument(0, 1));
        Check.due("1 minds itself", 1, x.instrument(1, 1));
        Check.due("never beside itself, loyal to itself", 3, x.plays(1));
    }

    private static void prices() {
        Check.edge("bribed by B (0 to 30)");
        good("i0,0,0;", "i0,0,30;");
        bad("i0,0,31;", "i0,0,40;", "i0,0,99;");
        SecondOboe x = Check.laid("i0,0,0;i0,0,30;");
        Check.due("bribed by 0", 0, x.bribe(0));
        Check.due("bribed by 30", 30, x.bribe(1));
    }

    private static void sevenInstruments() {
        Check.edge("INSTRUMENT: 7 at most");
        fault(SEVEN, NONE);
        fault(SEVEN + "i0,0,0;", 49);
        fault("g0;" + SEVEN + "b0,0;i0,0,0;", 57);
        Check.due("lay of seven", 7, Check.laid(SEVEN).count(0));
        Check.due("lay of eight", SecondOboe.NO, Check.written(SEVEN + "i0,0,0;").lay());
        Check.edge("INSTRUMENT: 0, 1, ..");
        SecondOboe x = Check.laid("i0,0,7;g0;i1,1,8;b0,0;i2,0,9;");
        for (int i = 0; i < 3; i++) {
            Check.due("kind of " + i, i, x.instrument(i, 0));
            Check.due("price of " + i, 7 + i, x.instrument(i, 2));
        }
        Check.due("no fourth", SecondOboe.BAD, x.instrument(3, 0));
    }

    private static void lowBits() {
        Check.edge("INSTRUMENTS 0 to 3 by the bits of P (0 to 15)");
        good("b0,0;", "b15,0;");
        bad("b16,0;", "b20,0;", "b99,0;");
        SecondOboe x = Check.laid(SEVEN + "b1,0;b2,0;b4,0;b8,0;b15,0;b0,0;");
        int[] want = {1, 2, 4, 8, 15, 0};
        for (int bar = 0; bar < want.length; bar++) {
            Check.due("asked(" + bar + ")", want[bar], x.asked(bar));
        }
    }

    private static void highBits() {
        Check.edge("4 to 6 by those of Q (0 to 7)");
        good("b0,7;", "b15,7;", "b0,07;");
        bad("b0,8;", "b0,08;", "b0,9;", "b0,10;", "b15,15;", "b0,99;");
        SecondOboe x = Check.laid(SEVEN + "b0,1;b0,2;b0,4;b0,7;b15,7;");
        int[] want = {16, 32, 64, 112, 127};
        for (int bar = 0; bar < want.length; bar++) {
            Check.due("asked(" + bar + ")", want[bar], x.asked(bar));
        }
    }

    private static void eightBars() {
        Check.edge("BAR: 8 at most");
        fault(EIGHT, NONE);
        fault(EIGHT + "b0,0;", 48);
        fault(SEVEN + EIGHT + "g0;b15,7;", 100);
        Check.due("bars of eight", 8, Check.laid(SEVEN + EIGHT).count(1));
        Check.due("lay of nine", SecondOboe.NO, Check.written(SEVEN + EIGHT + "b0,0;").lay());
        Check.edge("BAR: 0, 1, ..");
        SecondOboe x = Check.laid("b1,0;i0,0,0;b0,0;g3;b1,0;s0;b0,0;b1,0;b1,0;b0,0;b1,0;");
        int[] want = {1, 0, 1, 0, 1, 1, 0, 1, SecondOboe.BAD};
        for (int bar = 0; bar < want.length; bar++) {
            Check.due("asked(" + bar + ")", want[bar], x.asked(bar));
        }
    }

    private static void toldAhead() {
        Check.edge("sI INSTRUMENT I (told ahead)");
        fault("s0;", 0);
        fault("s0;i0,0,0;", 0);
        fault("b1,0;g0;s0;i0,0,0;", 8);
        fault("i0,0,0;s0;", NONE);
        fault("i0,0,0;s1;", 7);
        fault("i0,0,0;s1;i0,0,0;", 7);
        fault("i0,0,0;i0,0,0;s1;", NONE);
        fault("i0,0,0;i0,0,0;s2;", 14);
        fault("i0,0,0;s0;i0,0,0;s1;", NONE);
        fault(SEVEN + "s6;", NONE);
        fault(SEVEN + "s7;", 49);
        fault(SEVEN + "s10;", 49);
        fault(SEVEN + "s64;", 49);
        fault(SEVEN + "s99;", 49);
    }

    private static void nextSeat() {
        String four = "i0,0,0;".repeat(4);
        Check.edge("sits on the next seat (0 first)");
        Check.sits("all told", Check.laid(four + "s2;s0;s3;s1;"), 2, 0, 3, 1);
        Check.sits("told between", Check.laid("i0,0,0;s0;i0,0,0;i0,0,0;s2;b0,0;g0;i0,0,0;s1;"), 0, 2, 1, 3);
        Check.edge("if it sits on none yet (no matter else)");
        Check.sits("told twice", Check.laid(four + "s2;s2;s0;s2;s0;"), 2, 0, 1, 3);
        Check.sits("told more often than there are seats", Check.laid("i0,0,0;i0,0,0;" + "s1;".repeat(20) + "s0;s1;"), 1, 0);
        fault("i0,0,0;" + "s0;".repeat(64), NONE);
    }

    private static void notTold() {
        String five = "i0,0,0;".repeat(5);
        Check.edge("those not told sit behind these, by number");
        Check.sits("none told", Check.laid(five), 0, 1, 2, 3, 4);
        Check.sits("the last told", Check.laid(five + "s4;"), 4, 0, 1, 2, 3);
        Check.sits("the first told", Check.laid(five + "s0;"), 0, 1, 2, 3, 4);
        Check.sits("all but one told", Check.laid(five + "s3;s4;s1;s0;"), 3, 4, 1, 0, 2);
        Check.sits("told ahead of others", Check.laid("i0,0,0;i0,0,0;s1;i0,0,0;i0,0,0;"), 1, 0, 2, 3);
    }

    private static void gaps() {
        Check.edge("GAP behind seat K (0 to 5)");
        good("g0;", "g1;", "g2;", "g3;", "g4;", "g5;", "g05;");
        bad("g6;", "g06;", "g7;", "g9;", "g10;", "g15;", "g32;", "g99;");
        for (int k = 0; k < 6; k++) {
            SecondOboe x = Check.laid(SEVEN + "g" + k + ";");
            for (int i = 0; i < 7; i++) {
                int left = i == 0 || i - 1 == k ? 0 : 1 << i - 1;
                int right = i == 6 || i == k ? 0 : 1 << i + 1;
                Check.due("beside " + i + " with a gap behind " + k, left + right, x.instrument(i, 5));
            }
        }
    }

    private static void gapsToldAgain() {
        Check.edge("no matter if told once more");
        SecondOboe x = Check.laid("i0,0,0;i0,0,0;i0,0,0;g1;g1;g01;g0;g1;");
        Check.due("two gaps", 2, x.count(2));
        Check.due("0 alone", 0, x.instrument(0, 5));
        Check.due("2 alone", 0, x.instrument(2, 5));
    }

    private static void gapsBeyond() {
        Check.edge("behind the last seat and beyond it is counted, no matter else");
        SecondOboe x = Check.laid("i0,0,0;i0,0,0;i0,0,0;g2;g3;g5;");
        Check.due("three gaps", 3, x.count(2));
        Check.due("beside 0", 2, x.instrument(0, 5));
        Check.due("beside 1", 5, x.instrument(1, 5));
        Check.due("beside 2", 2, x.instrument(2, 5));
        SecondOboe one = Check.laid("i0,0,0;g0;g1;g2;g3;g4;g5;");
        Check.due("six gaps by one seat", 6, one.count(2));
        Check.due("nobody beside", 0, one.instrument(0, 5));
        Check.due("all six by seven seats", 6, Check.laid(SEVEN + "g0;g1;g2;g3;g4;g5;").count(2));
    }

    private static void firstFault() {
        Check.edge("FAULT: the place of the first letter of the first ITEM that is not so");
        fault("x", 0);
        fault("g6;", 0);
        fault("g0;g6;g7;", 3);
        fault("g0;g6;x", 3);
        fault("g0;g", 3);
        fault("i0,0,0;i0,0,31;i4,0,0;", 7);
        fault("i3,6,30;b15,7;s0;g5;g05;b16,0;", 24);
        fault("g0;".repeat(66) + "g6", 198);
        fault("g00;" + "g0;".repeat(65) + "g", 199);
        Check.edge("FAULT: a text without one, though it can't be laid");
        fault("b15,7;", NONE);
        fault("i0,6,0;", NONE);
        fault("i0,0,0;b2,0;", NONE);
    }
}
