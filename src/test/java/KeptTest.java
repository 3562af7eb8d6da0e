/** Promises 30 to 32: evenings kept, back to them, how many there are. */
public final class KeptTest {
    private KeptTest() {
    }

    public static void main(String[] args) {
        keep();
        back();
        backUndoesNothing();
        count();
        Check.finish();
    }

    private static void keep() {
        SecondOboe x = new SecondOboe();
        Check.due("keep", 1, x.keep());
        Check.due("keep a second", 2, x.keep());
        Check.due("keep a third", SecondOboe.FULL, x.keep());
        Check.due("two are kept", 2, x.count(6));
        x.back();
        Check.due("keep again", 2, x.keep());
    }

    private static void back() {
        SecondOboe x = new SecondOboe();
        Check.due("nothing kept", SecondOboe.NO, x.back());
        x.change(0, 4);
        x.bribe(1);
        x.keep();
        x.change(1, 2);
        x.bribe(2);
        x.keep();
        x.bribe(1);
        x.change(0, 1);
        x.heard(0, 0, 1);
        Check.due("back", 1, x.back());
        Check.sits("as kept last", x, 4, 1, 0, 3, 2);
        Check.due("bribes as kept last", 2, x.count(3));
        Check.due("beside as kept last", 2, x.instrument(4, 5));
        Check.due("what was heard stays", 1, x.count(4));
        Check.due("back to the first", 0, x.back());
        Check.sits("as kept first", x, 4, 0, 1, 3, 2);
        Check.due("bribes as kept first", 1, x.count(3));
        Check.due("1 is bribed", 1, x.instrument(1, 4));
        Check.due("2 is not", 0, x.instrument(2, 4));
        Check.due("none left", SecondOboe.NO, x.back());
        Check.sits("still as kept first", x, 4, 0, 1, 3, 2);
        SecondOboe played = new SecondOboe();
        played.keep();
        played.bribe(3);
        Check.due("whole by a bribe", SecondOboe.NONE, played.first());
        Check.due("seatings by a bribe", 8, played.odds(0));
        Check.due("of so many", 15, played.odds(1));
        played.back();
        Check.due("played as kept", 2, played.first());
        Check.due("seatings as kept", 0, played.odds(0));
    }

    private static void backUndoesNothing() {
        SecondOboe x = new SecondOboe();
        x.bribe(0);
        x.keep();
        Check.due("keep lets undo be", 1, x.count(5));
        x.change(0, 1);
        x.back();
        Check.due("nothing can be undone", 0, x.count(5));
        Check.due("undo", SecondOboe.NO, x.undo());
        Check.due("the bribe stays", 1, x.count(3));
        x.keep();
        x.bribe(1);
        Check.due("undo lets what is kept be", 0, x.undo());
        Check.due("still kept", 1, x.count(6));
        x.bribe(2);
        Check.due("refused", 0, x.back());
        x.bribe(2);
        Check.due("back refused", SecondOboe.NO, x.back());
        Check.due("undo stays where back is refused", 1, x.count(5));
    }

    private static void counts(String what, SecondOboe x, int... want) {
        for (int k = 0; k < want.length; k++) {
            Check.due(what + ": count(" + k + ")", want[k], x.count(k));
        }
    }

    private static void count() {
        SecondOboe x = Check.laid("i0,0,0;i1,0,0;b3,0;b1,0;b2,0;g0;g4;g4;g5;");
        counts("laid", x, 2, 3, 3, 0, 0, 0, 0, 41);
        x.bribe(0);
        x.bribe(1);
        x.change(0, 1);
        x.keep();
        x.heard(0, 0, 0);
        x.heard(0, 0, 0);
        x.heard(0, 0, 0);
        x.heard(0, 0, 0);
        x.write('i');
        counts("used", x, 2, 3, 3, 2, 4, 3, 1, 42);
        int[] bad = {8, 9, -1, 100, Integer.MIN_VALUE, Integer.MAX_VALUE};
        for (int what : bad) {
            Check.due("count(" + what + ")", SecondOboe.BAD, x.count(what));
        }
    }
}
