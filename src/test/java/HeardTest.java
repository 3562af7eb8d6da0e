/** Promises 25 to 29: what was heard, forgotten, kinds that fit it, halls, tours. */
public final class HeardTest {
    private static final int[] WILD = {-1, -2, 7, 8, 32, 100, Integer.MIN_VALUE, Integer.MAX_VALUE};

    private HeardTest() {
    }

    public static void main(String[] args) {
        heard();
        forget();
        kinds();
        kindsElse();
        hall();
        tour();
        tourBad();
        Check.finish();
    }

    private static void heard() {
        SecondOboe x = new SecondOboe();
        for (int wild : WILD) {
            Check.due("heard(" + wild + ", 0, 0)", SecondOboe.BAD, x.heard(wild, 0, 0));
            Check.due("heard(0, " + wild + ", 0)", SecondOboe.BAD, x.heard(0, wild, 0));
            Check.due("heard(0, 0, " + wild + ")", SecondOboe.BAD, x.heard(0, 0, wild));
        }
        Check.due("heard(5, 0, 0)", SecondOboe.BAD, x.heard(5, 0, 0));
        Check.due("heard(0, 4, 0)", SecondOboe.BAD, x.heard(0, 4, 0));
        Check.due("heard(0, 0, 2)", SecondOboe.BAD, x.heard(0, 0, 2));
        for (int k = 1; k <= 8; k++) {
            Check.due("heard the " + k + "th", k, x.heard(4, 3, k % 2));
            Check.due("count", k, x.count(4));
        }
        Check.due("heard a ninth", SecondOboe.FULL, x.heard(0, 0, 0));
        Check.due("bad ahead of full", SecondOboe.BAD, x.heard(0, 0, 2));
        Check.due("still eight", 8, x.count(4));
        x.change(0, 1);
        x.bribe(0);
        x.keep();
        x.back();
        x.wipe();
        Check.due("all of it stays heard", 8, x.count(4));
    }

    private static void forget() {
        SecondOboe x = new SecondOboe();
        Check.due("nothing to forget", 0, x.forget());
        x.heard(3, 0, 0);
        x.heard(3, 1, 0);
        Check.due("none fits", 0, x.kinds(3));
        Check.due("two forgotten", 2, x.forget());
        Check.due("none heard", 0, x.count(4));
        Check.due("all fit", 15, x.kinds(3));
        Check.due("heard anew", 1, x.heard(3, 2, 1));
        Check.due("by what was heard anew", 3, x.kinds(3));
    }

    private static void kinds() {
        // 0 minds 1, beside it: as SULKING it rests; as LOYAL it plays in bars 0 and 2, as SHY in 0 and 1.
        String text = "i3,1,0;i0,0,0;b1,0;b3,0;b1,0;";
        int[][] due = {{15, 13}, {15, 9}, {15, 5}};
        for (int kind = 0; kind < 4; kind++) {
            for (int bar = 0; bar < 3; bar++) {
                SecondOboe x = Check.laid(text.replace("i3", "i" + kind));
                Check.due("nothing heard", 15, x.kinds(0));
                x.heard(0, bar, 1);
                Check.due("of kind " + kind + " heard in " + bar, due[bar][1], x.kinds(0));
                Check.due("of another nothing", 15, x.kinds(1));
                x.heard(0, bar, 0);
                Check.due("heard both", 0, x.kinds(0));
                x.forget();
                x.heard(0, bar, 0);
                Check.due("of kind " + kind + " not heard in " + bar, 15 - due[bar][1], x.kinds(0));
                Check.due("its kind stays", kind, x.instrument(0, 0));
            }
        }
        SecondOboe x = Check.laid(text);
        x.heard(0, 1, 1);
        x.heard(0, 2, 0);
        Check.due("heard in two bars", 8, x.kinds(0));
        Check.due("played as by its own kind", 2, x.plays(1) & 2);
        for (int wild : WILD) {
            Check.due("kinds(" + wild + ")", SecondOboe.BAD, x.kinds(wild));
        }
        Check.due("kinds(2)", SecondOboe.BAD, x.kinds(2));
    }

    private static void kindsElse() {
        SecondOboe x = Check.laid("i1,1,0;i0,0,0;b1,0;b2,0;");
        x.bribe(0);
        x.heard(0, 0, 1);
        Check.due("not bribed itself", 13, x.kinds(0));
        Check.due("it stays bribed", 1, x.instrument(0, 4));
        x.forget();
        x.heard(0, 1, 1);
        Check.due("heard, though not asked", 0, x.kinds(0));
        x.forget();
        x.heard(0, 1, 0);
        Check.due("not heard, not asked", 15, x.kinds(0));
        SecondOboe others = Check.laid("i2,1,0;i1,0,0;b2,0;b1,0;");
        others.heard(0, 1, 1);
        Check.due("the other sulks", 1 + 8, others.kinds(0));
        others.bribe(1);
        Check.due("the other is bribed", 1 + 4, others.kinds(0));
        others.change(0, 1);
        Check.due("changed", 1 + 4, others.kinds(0));
        SecondOboe round = Check.laid("i0,1,0;i2,0,0;b3,0;b2,0;b1,0;");
        round.heard(0, 2, 1);
        Check.due("its kind works on others, and these on it", 1 + 4, round.kinds(0));
    }

    private static void hall() {
        SecondOboe x = new SecondOboe();
        int[] due = {13, 13, 14, 14};
        for (int k = 0; k < 4; k++) {
            Check.due("hall(" + k + ")", due[k], x.hall(k));
        }
        Check.due("hall(9)", 13, x.hall(9));
        for (int k = 4; k < 9; k++) {
            Check.due("hall(" + k + ")", SecondOboe.BAD, x.hall(k));
        }
        int[] bad = {-1, 10, 31, 32, 33, 41, Integer.MIN_VALUE, Integer.MAX_VALUE};
        for (int k : bad) {
            Check.due("hall(" + k + ")", SecondOboe.BAD, x.hall(k));
        }
        Check.due("the gap stays", 1, x.count(2));
        Check.due("played as by the gap", 14, x.notes(0));
        SecondOboe one = Check.laid("i0,0,0;b1,0;");
        Check.due("no gap behind the only seat", SecondOboe.BAD, one.hall(0));
        Check.due("without any", 1, one.hall(9));
        SecondOboe seven = Check.laid("i1,1,0;i1,2,0;i1,3,0;i1,4,0;i1,5,0;i1,6,0;i1,5,0;b15,7;g0;g1;g2;g3;g4;g5;");
        Check.due("all parted", 7, seven.notes(0));
        Check.due("but one gap, the others are none", 2, seven.hall(5));
        Check.due("but one gap, in front", 1, seven.hall(0));
        Check.due("none at all", 0, seven.hall(9));
        Check.due("hall(6)", SecondOboe.BAD, seven.hall(6));
        seven.bribe(3);
        Check.due("by bribes", 3, seven.hall(5));
    }

    private static void tour(SecondOboe x, int z, int n, int whole, int most) {
        Check.due("tour(" + z + ", " + n + ", 0)", whole, x.tour(z, n, 0));
        Check.due("tour(" + z + ", " + n + ", 1)", most, x.tour(z, n, 1));
    }

    private static void tour() {
        // Draws by z 0 change seats 0 and 0 (alike: nothing), 3 and 0, 2 and 1: 0 and 1 sit beside, apart, beside.
        SecondOboe x = Check.laid("i1,1,0;i0,0,0;i0,0,0;i0,0,0;b15,0;");
        tour(x, 0, 1, 0, 3);
        tour(x, 0, 2, 1, 4);
        tour(x, 0, 3, 1, 4);
        tour(x, 0, 20, 12, 4);
        tour(x, 1, 1, 0, 3);
        tour(x, 9999, 3, 2, 4);
        tour(x, 9999, 20, 8, 4);
        tour(x, 5000, 20, 10, 4);
        for (int s = 0; s < 4; s++) {
            Check.due("behind the tours: seat(" + s + ")", s, x.seat(s));
        }
        Check.due("a tour is nothing to be undone", 0, x.count(5));
        x.change(0, 3);
        tour(x, 0, 1, 1, 4);
        x.undo();
        x.bribe(0);
        tour(x, 0, 3, 3, 4);
        tour(Check.laid("i0,0,0;b1,0;"), 77, 20, 20, 1);
        tour(Check.laid("i1,0,0;"), 77, 20, 20, 0);
    }

    private static void tourBad() {
        SecondOboe x = new SecondOboe();
        int[][] bad = {{-1, 1, 0}, {10000, 1, 0}, {0, 0, 0}, {0, 21, 0}, {0, -1, 0}, {0, 1, 2}, {0, 1, -1},
            {Integer.MIN_VALUE, 1, 0}, {Integer.MAX_VALUE, 1, 0}, {0, Integer.MIN_VALUE, 0}, {0, Integer.MAX_VALUE, 0},
            {0, 1, Integer.MIN_VALUE}, {0, 1, Integer.MAX_VALUE}};
        for (int[] row : bad) {
            Check.due("tour(" + row[0] + ", " + row[1] + ", " + row[2] + ")", SecondOboe.BAD,
                x.tour(row[0], row[1], row[2]));
        }
    }
}
