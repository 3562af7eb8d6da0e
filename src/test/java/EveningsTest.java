/** Promises 9 to 12: who plays, who is missing, the first bar that is not whole, notes. */
public final class EveningsTest {
    private EveningsTest() {
    }

    public static void main(String[] args) {
        plain();
        sulking();
        loyal();
        shy();
        bribed();
        allAtOnce();
        missing();
        first();
        notes();
        Check.finish();
    }

    private static void plays(String what, SecondOboe x, int... want) {
        for (int bar = 0; bar < want.length; bar++) {
            Check.due(what + ": plays(" + bar + ")", want[bar], x.plays(bar));
        }
        Check.due(what + ": no bar behind", SecondOboe.BAD, x.plays(want.length));
        Check.due(what + ": no bar ahead", SecondOboe.BAD, x.plays(-1));
        Check.due(what + ": lowest", SecondOboe.BAD, x.plays(Integer.MIN_VALUE));
        Check.due(what + ": highest", SecondOboe.BAD, x.plays(Integer.MAX_VALUE));
    }

    private static void plain() {
        plays("plain", Check.laid("i0,1,0;i0,0,0;b3,0;b0,0;b2,0;b1,0;"), 3, 0, 2, 1);
        plays("no bars", Check.laid("i0,0,0;"));
    }

    private static void sulking() {
        SecondOboe x = Check.laid("i1,2,0;i0,0,0;i0,0,0;b7,0;b1,0;b6,0;");
        plays("sulking, parted by one", x, 7, 1, 6);
        x.change(1, 2);
        plays("sulking, beside", x, 6, 0, 6);
        plays("sulking across a gap", Check.laid("i1,1,0;i0,0,0;b3,0;g0;"), 3);
        plays("sulking, a gap elsewhere", Check.laid("i1,1,0;i0,0,0;b3,0;g1;"), 2);
        plays("sulking on the right side", Check.laid("i0,0,0;i1,0,0;b3,0;"), 1);
        plays("sulking though it is not asked", Check.laid("i1,1,0;i0,0,0;b1,0;b1,0;"), 0, 0);
        plays("sulking at itself", Check.laid("i1,0,0;i0,0,0;b3,0;b1,0;"), 3, 1);
    }

    private static void loyal() {
        plays("loyal", Check.laid("i2,1,0;i0,0,0;b1,0;b3,0;b3,0;b1,0;b1,0;"), 1, 2, 3, 1, 0);
        plays("loyal to itself", Check.laid("i2,0,0;b1,0;b1,0;b0,0;b1,0;"), 1, 1, 0, 0);
        plays("loyal to who played, not to who was asked",
            Check.laid("i2,1,0;i1,0,0;b3,0;b3,0;"), 1, 0);
        plays("loyal from afar", Check.laid("i2,2,0;i0,0,0;i0,0,0;b7,0;b7,0;g0;g1;"), 7, 7);
    }

    private static void shy() {
        String band = "i3,0,0;i0,0,0;b3,0;b3,0;b1,0;b1,0;";
        plays("shy", Check.laid(band), 3, 2, 0, 1);
        plays("shy behind a gap", Check.laid(band + "g0;"), 3, 3, 1, 1);
        plays("shy on the right side", Check.laid("i0,0,0;i3,1,0;b3,0;b3,0;"), 3, 1);
        plays("shy of those beside only", Check.laid("i3,2,0;i0,0,0;i0,0,0;b5,0;b5,0;"), 5, 5);
        plays("shy of itself not", Check.laid("i3,0,0;b1,0;b1,0;"), 1, 1);
    }

    private static void bribed() {
        SecondOboe x = Check.laid("i1,1,0;i3,0,0;i2,2,0;b3,0;b7,0;b4,0;");
        plays("nobody bribed", x, 2, 2, 0);
        x.bribe(0);
        plays("sulking bribed", x, 3, 1, 0);
        x.bribe(1);
        plays("shy bribed", x, 3, 3, 0);
        x.bribe(2);
        plays("loyal bribed", x, 3, 7, 4);
        x.bribe(1);
        plays("shy no more bribed", x, 3, 5, 4);
        SecondOboe notAsked = Check.laid("i0,0,0;i0,0,0;b2,0;");
        notAsked.bribe(0);
        plays("bribed, not asked", notAsked, 2);
    }

    private static void allAtOnce() {
        plays("two shy ones", Check.laid("i3,0,0;i3,0,0;b3,0;b3,0;b3,0;"), 3, 0, 3);
        plays("a chain of loyal ones", Check.laid("i2,1,0;i2,2,0;i2,0,0;b1,0;b7,0;b7,0;b7,0;"), 1, 4, 2, 1);
    }

    private static void missing() {
        SecondOboe x = new SecondOboe();
        int[] want = {0, 0, 8, 0};
        for (int bar = 0; bar < 4; bar++) {
            Check.due("missing(" + bar + ")", want[bar], x.missing(bar));
        }
        int[] bad = {4, 8, -1, Integer.MIN_VALUE, Integer.MAX_VALUE};
        for (int bar : bad) {
            Check.due("missing(" + bar + ")", SecondOboe.BAD, x.missing(bar));
        }
        x.bribe(3);
        Check.due("missing(2) bribed", 0, x.missing(2));
        Check.due("missing of all", 3, Check.laid("i1,1,0;i1,0,0;b3,0;").missing(0));
        Check.due("missing of those asked", 2, Check.laid("i1,1,0;i1,0,0;b2,0;").missing(0));
    }

    private static void first() {
        Check.due("first at first", 2, new SecondOboe().first());
        Check.due("first is bar 0", 0, Check.laid("i1,1,0;i0,0,0;b1,0;b3,0;").first());
        Check.due("first is the last", 1, Check.laid("i1,1,0;i0,0,0;b2,0;b3,0;").first());
        Check.due("all whole", SecondOboe.NONE, Check.laid("i0,0,0;b1,0;b0,0;").first());
        Check.due("no bars", SecondOboe.NONE, Check.laid("i0,0,0;").first());
    }

    private static void notes() {
        SecondOboe x = new SecondOboe();
        Check.due("notes", 14, x.notes(0));
        Check.due("whole bars", 3, x.notes(1));
        int[] bad = {2, -1, Integer.MIN_VALUE, Integer.MAX_VALUE};
        for (int what : bad) {
            Check.due("notes(" + what + ")", SecondOboe.BAD, x.notes(what));
        }
        SecondOboe most = Check.laid("i0,0,0;".repeat(7) + "b15,7;".repeat(8));
        Check.due("most notes", 56, most.notes(0));
        Check.due("most whole bars", 8, most.notes(1));
        SecondOboe none = Check.laid("i0,0,0;");
        Check.due("no notes", 0, none.notes(0));
        Check.due("no whole bars", 0, none.notes(1));
        SecondOboe empty = Check.laid("i1,1,0;i0,0,0;b0,0;b1,0;");
        Check.due("a bar that asks nobody is whole", 1, empty.notes(1));
        Check.due("and has no notes", 0, empty.notes(0));
    }
}
