/** Promises 13 to 15: seats changed, instruments bribed, undone. */
public final class ChangesTest {
    private ChangesTest() {
    }

    public static void main(String[] args) {
        change();
        bribe();
        undo();
        undoOfTheLastEight();
        Check.finish();
    }

    private static void change() {
        SecondOboe x = new SecondOboe();
        Check.due("change(0, 4)", 4, x.change(0, 4));
        Check.sits("changed", x, 4, 0, 1, 3, 2);
        Check.due("change(4, 1)", 0, x.change(4, 1));
        Check.sits("changed the other way round", x, 4, 2, 1, 3, 0);
        int[] bad = {-1, 5, 7, Integer.MIN_VALUE, Integer.MAX_VALUE};
        for (int s : bad) {
            Check.due("change(" + s + ", 0)", SecondOboe.BAD, x.change(s, 0));
            Check.due("change(0, " + s + ")", SecondOboe.BAD, x.change(0, s));
        }
        for (int s = 0; s < 5; s++) {
            Check.due("change alike " + s, SecondOboe.BAD, x.change(s, s));
        }
        Check.sits("not changed by what is bad", x, 4, 2, 1, 3, 0);
        Check.due("what is bad can't be undone", 2, x.count(5));
        Check.due("change of the only seat", SecondOboe.BAD, Check.laid("i0,0,0;").change(0, 0));
    }

    private static void bribe() {
        SecondOboe x = new SecondOboe();
        Check.due("bribe(0)", 2, x.bribe(0));
        Check.due("bribe(4)", 8, x.bribe(4));
        Check.due("bribe(0) no more", 6, x.bribe(0));
        Check.due("bribe(4) no more", 0, x.bribe(4));
        int[] bad = {-1, 5, 7, 31, 32, Integer.MIN_VALUE, Integer.MAX_VALUE};
        for (int i : bad) {
            Check.due("bribe(" + i + ")", SecondOboe.BAD, x.bribe(i));
        }
        Check.due("four can be undone", 4, x.count(5));
        Check.due("nobody bribed", 0, x.count(3));
        SecondOboe dear = Check.laid("i1,0,30;".repeat(7));
        for (int i = 0; i < 7; i++) {
            Check.due("dear bribe " + i, 30 * (i + 1), dear.bribe(i));
        }
    }

    private static void undo() {
        SecondOboe x = new SecondOboe();
        Check.due("nothing to undo", SecondOboe.NO, x.undo());
        x.change(0, 3);
        x.bribe(3);
        x.change(3, 1);
        Check.due("undo a change", 2, x.undo());
        Check.sits("undone", x, 3, 0, 1, 2, 4);
        Check.due("still bribed", 1, x.instrument(3, 4));
        Check.due("undo a bribe", 1, x.undo());
        Check.due("no more bribed", 0, x.instrument(3, 4));
        Check.due("played as by now", 2, x.first());
        Check.due("undo the first", 0, x.undo());
        Check.sits("all undone", x, 2, 0, 1, 3, 4);
        Check.due("no more to undo", SecondOboe.NO, x.undo());
        x.bribe(1);
        x.bribe(1);
        Check.due("undo of a bribe taken back", 1, x.undo());
        Check.due("bribed again", 1, x.instrument(1, 4));
        x.change(0, 1);
        Check.due("an undo is no change to be undone", 2, x.count(5));
    }

    private static void undoOfTheLastEight() {
        SecondOboe x = new SecondOboe();
        x.bribe(0);
        x.change(0, 1);
        for (int k = 0; k < 4; k++) {
            x.bribe(k + 1);
            x.change(k, k + 1);
        }
        Check.due("eight can be undone", 8, x.count(5));
        for (int left = 7; left >= 0; left--) {
            Check.due("undo, left", left, x.undo());
        }
        Check.due("the ninth can't be", SecondOboe.NO, x.undo());
        Check.sits("the first two stay", x, 0, 2, 1, 3, 4);
        Check.due("the first bribe stays", 1, x.instrument(0, 4));
        Check.due("only the first bribe", 1, x.count(3));
        for (int a = 0; a < 5; a++) {
            for (int b = 0; b < 5; b++) {
                if (a != b) {
                    x.change(a, b);
                    x.undo();
                    Check.sits("change " + a + " and " + b + " undone", x, 0, 2, 1, 3, 4);
                }
            }
        }
    }
}
