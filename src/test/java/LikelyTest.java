/** Promises 22 to 24: how many seatings are heard alike, how likely all is whole, how likely so many notes. */
public final class LikelyTest {
    /** Each sulks at the next by number: by 2, 10, 10, 2 of 24 seatings 4, 3, 2, 1 of them play. */
    private static final String CHAIN = "i1,1,4;i1,2,5;i1,3,6;i0,0,7;b15,0;";
    private static final int[] BAD = {2, -1, -2, 57, Integer.MIN_VALUE, Integer.MAX_VALUE};

    private LikelyTest() {
    }

    public static void main(String[] args) {
        alike();
        odds();
        atLeast();
        Check.finish();
    }

    private static void alike() {
        SecondOboe x = Check.laid(CHAIN);
        Check.due("alike", 2, x.alike());
        x.bribe(0);
        Check.due("alike with a bribe", 4, x.alike());
        x.undo();
        Check.due("alike with the bribe undone", 2, x.alike());
        x.change(0, 3);
        x.change(0, 1);
        Check.due("now 1, 3, 2, 0", 1, x.seat(0));
        Check.due("alike, 0 and 1 and 3 play", 2, x.alike());
        Check.due("all alike", 5040, Check.laid("i0,0,0;".repeat(7) + "b15,7;").alike());
        Check.due("no bars", 6, Check.laid("i1,0,0;i1,0,0;i1,0,0;").alike());
        Check.due("alone", 1, Check.laid("i0,0,0;").alike());
        Check.due("not alike in bar 1 alone", 2, Check.laid("i3,0,0;i0,0,0;i0,0,0;b3,0;b1,0;s1;s2;s0;").alike());
    }

    private static void odds(String what, SecondOboe x, int above, int below) {
        Check.due(what + ": odds(0)", above, x.odds(0));
        Check.due(what + ": odds(1)", below, x.odds(1));
    }

    private static void odds() {
        SecondOboe x = Check.laid(CHAIN);
        odds("chain", x, 1, 12);
        x.change(0, 2);
        odds("chain, moved", x, 1, 12);
        x.bribe(0);
        odds("0 bribed", x, 1, 6);
        x.bribe(2);
        odds("0 and 2 bribed", x, 1, 2);
        x.bribe(1);
        odds("all three bribed", x, 1, 1);
        odds("never", Check.laid("i1,1,0;i0,0,0;b1,0;"), 0, 1);
        odds("a third", Check.laid("i1,1,0;i0,0,0;i0,0,0;b1,0;"), 1, 3);
        odds("two thirds", Check.laid("i1,1,0;i0,0,0;i0,0,0;b1,0;g0;"), 2, 3);
        odds("no bars", Check.laid("i1,0,0;"), 1, 1);
        for (int part : BAD) {
            Check.due("odds(" + part + ")", SecondOboe.BAD, x.odds(part));
        }
    }

    private static void atLeast(String what, SecondOboe x, int n, int above, int below) {
        Check.due(what + ": atLeast(" + n + ", 0)", above, x.atLeast(n, 0));
        Check.due(what + ": atLeast(" + n + ", 1)", below, x.atLeast(n, 1));
    }

    private static void atLeast() {
        SecondOboe x = Check.laid(CHAIN);
        atLeast("chain", x, 0, 1, 1);
        atLeast("chain", x, 1, 1, 1);
        atLeast("chain", x, 2, 11, 12);
        atLeast("chain", x, 3, 1, 2);
        atLeast("chain", x, 4, 1, 12);
        atLeast("chain", x, 5, 0, 1);
        atLeast("chain", x, 56, 0, 1);
        SecondOboe most = Check.laid("i0,0,0;".repeat(7) + "b15,7;".repeat(8));
        atLeast("most", most, 56, 1, 1);
        most.bribe(0);
        atLeast("most bribed", most, 0, 1, 1);
        for (int bad : BAD) {
            Check.due("atLeast(" + bad + " as a part)", SecondOboe.BAD, x.atLeast(0, bad));
            if (bad != 2) {
                Check.due("atLeast(" + bad + ", 0)", SecondOboe.BAD, x.atLeast(bad, 0));
            }
        }
        Check.due("atLeast(57, 1)", SecondOboe.BAD, x.atLeast(57, 1));
        Check.due("atLeast(-1, 1)", SecondOboe.BAD, x.atLeast(-1, 1));
    }
}
