/** Promises 16 to 21: the best seating, fewest changes, the change that helps, bribes, rests, silence. */
public final class WouldBeTest {
    /** Each sulks at the next by number: whole are 1, 3, 0, 2 and 2, 0, 3, 1 alone. */
    private static final String CHAIN = "i1,1,4;i1,2,5;i1,3,6;i0,0,7;b15,0;b15,0;";
    private static final int[] BAD = {2, -1, -2, 7, Integer.MIN_VALUE, Integer.MAX_VALUE};

    private WouldBeTest() {
    }

    public static void main(String[] args) {
        best();
        changes();
        help();
        bribes();
        rests();
        silence();
        Check.finish();
    }

    private static void best(String what, SecondOboe x, int most, int... sitting) {
        Check.due(what + ": best(-1)", most, x.best(-1));
        for (int s = 0; s < sitting.length; s++) {
            Check.due(what + ": best(" + s + ")", sitting[s], x.best(s));
        }
        Check.due(what + ": no seat behind", SecondOboe.BAD, x.best(sitting.length));
        Check.due(what + ": best(-2)", SecondOboe.BAD, x.best(-2));
        Check.due(what + ": lowest", SecondOboe.BAD, x.best(Integer.MIN_VALUE));
        Check.due(what + ": highest", SecondOboe.BAD, x.best(Integer.MAX_VALUE));
    }

    private static void best() {
        SecondOboe x = Check.laid(CHAIN);
        best("chain", x, 8, 1, 3, 0, 2);
        x.change(0, 2);
        best("chain moved", x, 8, 1, 3, 0, 2);
        x.bribe(0);
        best("chain, 0 bribed", x, 8, 1, 3, 0, 2);
        x.bribe(1);
        best("chain, 0 and 1 bribed", x, 8, 0, 2, 1, 3);
        x.bribe(2);
        best("chain bribed", x, 8, 0, 1, 2, 3);
        best("all alike", Check.laid("i0,0,0;i0,0,0;i0,0,0;b7,0;s2;s1;"), 3, 0, 1, 2);
        best("gap", Check.laid("i1,1,0;i0,0,0;i0,0,0;b1,0;g0;"), 1, 0, 1, 2);
        best("no gap", Check.laid("i1,1,0;i0,0,0;i0,0,0;b1,0;"), 1, 0, 2, 1);
        best("alone", Check.laid("i0,0,0;b1,0;"), 1, 0);
        best("no notes", Check.laid("i0,0,0;i0,0,0;s1;"), 0, 0, 1);
        SecondOboe seats = new SecondOboe();
        seats.best(0);
        Check.due("best changes nothing", 2, seats.seat(0));
        Check.due("best is nothing to be undone", 0, seats.count(5));
    }

    private static void changes() {
        SecondOboe x = Check.laid(CHAIN);
        Check.due("three changes", 3, x.changes());
        x.change(0, 1);
        Check.due("two changes", 2, x.changes());
        x.change(2, 3);
        x.change(1, 2);
        Check.due("now 1, 3, 0, 2", 3, x.seat(1));
        Check.due("no change", 0, x.changes());
        x.change(0, 3);
        Check.due("one change", 1, x.changes());
        x.undo();
        Check.due("no change behind undo", 0, x.changes());
        Check.due("by none", SecondOboe.NONE, Check.laid("i1,1,0;i0,0,0;b1,0;").changes());
        Check.due("no bars are whole", 0, Check.laid("i1,1,0;i0,0,0;").changes());
        SecondOboe bribed = Check.laid("i1,1,0;i0,0,0;b1,0;");
        bribed.bribe(0);
        Check.due("whole by a bribe", 0, bribed.changes());
        Check.due("by gaps", 1, Check.laid("i1,1,0;i0,0,0;i1,3,0;i0,0,0;b15,0;g0;g2;s0;s2;s3;s1;").changes());
    }

    private static void help() {
        SecondOboe x = Check.laid(CHAIN);
        Check.due("helps, the first of several", 3, x.help(0));
        Check.due("helps to", 6, x.help(1));
        for (int what : BAD) {
            Check.due("help(" + what + ")", SecondOboe.BAD, x.help(what));
        }
        Check.due("help changes nothing", 0, x.seat(0));
        Check.due("help is nothing to be undone", 0, x.count(5));
        SecondOboe middle = Check.laid("i1,1,0;i0,0,0;i0,0,0;b1,0;");
        Check.due("helps by 1 and 2", 8 + 2, middle.help(0));
        Check.due("to one note", 1, middle.help(1));
        SecondOboe none = Check.laid("i0,0,0;i0,0,0;b3,0;");
        Check.due("none helps", SecondOboe.NONE, none.help(0));
        Check.due("none helps to", SecondOboe.NONE, none.help(1));
        Check.due("bad ahead of none", SecondOboe.BAD, none.help(2));
        Check.due("nobody to change with", SecondOboe.NONE, Check.laid("i0,0,0;b1,0;").help(0));
    }

    private static void bribes() {
        SecondOboe x = Check.laid(CHAIN);
        Check.due("the three that sulk", 7, x.bribes(0));
        Check.due("as much", 15, x.bribes(1));
        x.bribe(3);
        Check.due("in place of those who are", 7, x.bribes(0));
        Check.due("as much in place", 15, x.bribes(1));
        x.bribe(0);
        Check.due("the bribed one, too", 7, x.bribes(0));
        for (int what : BAD) {
            Check.due("bribes(" + what + ")", SecondOboe.BAD, x.bribes(what));
        }
        Check.due("bribes stay", 2, x.count(3));
        SecondOboe free = Check.laid("i0,0,0;i1,0,0;i0,0,0;b7,0;");
        Check.due("the lowest of those that cost nothing", 2, free.bribes(0));
        Check.due("costs nothing", 0, free.bribes(1));
        SecondOboe none = Check.laid("i0,0,3;i1,0,5;");
        Check.due("nobody needs be bribed", 0, none.bribes(0));
        Check.due("nothing to pay", 0, none.bribes(1));
        Check.due("by seats", 4, new SecondOboe().bribes(1));
    }

    private static void rests() {
        SecondOboe x = Check.laid(CHAIN);
        Check.due("rests", 6, x.rests());
        x.bribe(1);
        Check.due("rests with a bribe", 4, x.rests());
        Check.due("those not asked have none", 1, Check.laid("i1,1,0;i1,0,0;b1,0;").rests());
        Check.due("no rests", 0, Check.laid("i0,0,0;b1,0;").rests());
        Check.due("no bars", 0, Check.laid("i1,0,0;").rests());
    }

    private static void silence() {
        SecondOboe x = Check.laid("i3,0,0;i0,0,0;b3,0;b3,0;");
        Check.due("its own notes and those it brings", 101, x.silence(0));
        Check.due("its own less those it hinders", 101, x.silence(1));
        SecondOboe hinders = Check.laid("i0,0,0;i3,0,0;i3,0,0;b1,0;b6,0;s1;");
        Check.due("hinders more than it plays", 99, hinders.silence(0));
        Check.due("plays nothing", 100, hinders.silence(1));
        Check.due("brings a loyal one", 105, Check.laid("i0,0,0;i2,0,0;b3,0;b3,0;b3,0;").silence(0));
        SecondOboe bribed = Check.laid("i1,1,0;i0,0,0;b1,0;");
        bribed.bribe(0);
        Check.due("never asked, though bribed", 101, bribed.silence(0));
        Check.due("nothing changed", 1, bribed.notes(0));
        int[] bad = {-1, 2, 7, 32, Integer.MIN_VALUE, Integer.MAX_VALUE};
        for (int i : bad) {
            Check.due("silence(" + i + ")", SecondOboe.BAD, bribed.silence(i));
        }
    }
}
