import java.util.TreeSet;

/**
 * Promises 1 to 32 at their boundaries: numbers that are none that is told, NO, NONE, FULL, which of them comes first,
 * and that nothing changes then. A refused call is made on objects in three states; what they tell behind it is held
 * against what one tells that was not called.
 */
public final class CallEdgesTest {
    private static final int BAD = SecondOboe.BAD, NO = SecondOboe.NO, FULL = SecondOboe.FULL, NONE = SecondOboe.NONE;
    private static final String BAND = "i2,4,4;i3,1,0;i1,3,6;i0,0,7;i1,2,30;b15,1;b7,1;b12,1;b9,1;s3;s0;g1;g4;";
    private static final int AS_MADE = 0, USED = 1, FULL_UP = 2, STATES = 3;
    private static final String[] UNTOUCHED = new String[STATES];

    private interface Call {
        int on(SecondOboe x);
    }

    private interface CallWith {
        int on(SecondOboe x, int number);
    }

    private CallEdgesTest() {
    }

    public static void main(String[] args) {
        for (int state = 0; state < STATES; state++) {
            UNTOUCHED[state] = everything(object(state));
        }
        newObject();
        write();
        wipe();
        fault();
        lay();
        instrument();
        seatsAndBars();
        evenings();
        change();
        bribe();
        undo();
        best();
        changes();
        helpAndBribes();
        restsAndSilence();
        likely();
        heard();
        forget();
        kinds();
        hall();
        tour();
        keep();
        back();
        count();
        sizes();
        bars();
        smallerBand();
        lastCall();
        Check.finish();
    }

    private static SecondOboe object(int state) {
        SecondOboe x = new SecondOboe();
        if (state == AS_MADE) {
            return x;
        }
        write(x, BAND);
        x.lay();
        x.keep();
        for (int k = 0; k < (state == USED ? 2 : 5); k++) {
            x.bribe(k);
            x.change(k, 4 - k == k ? 0 : 4 - k);
        }
        x.bribe(1);
        x.undo();
        if (state == FULL_UP) {
            x.bribe(3);
            x.keep();
        }
        for (int k = 0; k < (state == USED ? 3 : 8); k++) {
            x.heard(k % 3, k % 2, k < 4 ? 1 : 0);
        }
        if (state == FULL_UP) {
            write(x, "x".repeat(200 - BAND.length()));
        }
        return x;
    }

    private static void write(SecondOboe x, String text) {
        for (int k = 0; k < text.length(); k++) {
            x.write(text.charAt(k));
        }
    }

    /** All that an object of five or less tells, then undone and taken back to the end: it is used up behind this. */
    private static String everything(SecondOboe x) {
        StringBuilder all = new StringBuilder();
        for (int k = 0; k < 8; k++) {
            add(all, x.count(k), x.asked(k), x.plays(k), x.missing(k));
        }
        for (int i = 0; i < 5; i++) {
            for (int what = 0; what < 6; what++) {
                add(all, x.instrument(i, what));
            }
            add(all, x.silence(i), x.kinds(i), x.best(i), x.hall(i));
        }
        add(all, x.fault(), x.first(), x.notes(0), x.notes(1), x.best(-1), x.changes(), x.help(0), x.help(1));
        add(all, x.bribes(0), x.bribes(1), x.rests(), x.alike(), x.odds(0), x.odds(1), x.atLeast(9, 0), x.hall(9));
        add(all, x.tour(31, 7, 0), x.tour(31, 7, 1));
        sitting(all, x);
        for (int k = 0; k < 9; k++) {
            add(all, x.undo());
            sitting(all, x);
        }
        for (int k = 0; k < 3; k++) {
            add(all, x.back());
            sitting(all, x);
        }
        add(all, x.forget(), x.wipe());
        return all.toString();
    }

    private static void sitting(StringBuilder all, SecondOboe x) {
        for (int s = 0; s < 5; s++) {
            add(all, x.seat(s), x.instrument(s, 4));
        }
    }

    private static void add(StringBuilder all, int... answers) {
        for (int answer : answers) {
            all.append(answer).append(' ');
        }
    }

    private static void changesNothing(String what, int state, int want, Call call) {
        SecondOboe x = object(state);
        Check.due(what, want, call.on(x));
        Check.due(what + " in state " + state + ", 1 if nothing changed", 1, everything(x).equals(UNTOUCHED[state]) ? 1 : 0);
    }

    private static void bad(String what, Call call) {
        for (int state = 0; state < STATES; state++) {
            changesNothing(what, state, BAD, call);
        }
    }

    /** Numbers that are none of low to high: next to these, far off, and such as would be these if cut to fewer bits. */
    private static TreeSet<Integer> outside(int low, int high) {
        int[] all = {low - 1, high + 1, -1, -2, -3, -4, low - 32, high - 32, low + 32, low + 64, high + 64, low - 256, low + 256,
            low + 65536, high + 65536, low - 65536, Integer.MIN_VALUE, Integer.MIN_VALUE + 1, Integer.MAX_VALUE,
            Integer.MAX_VALUE - 1, Integer.MIN_VALUE + high, 1 << 30};
        TreeSet<Integer> set = new TreeSet<>();
        for (int number : all) {
            if (number < low || number > high) {
                set.add(number);
            }
        }
        return set;
    }

    private static void badOutside(String what, int low, int high, CallWith call) {
        for (int number : outside(low, high)) {
            bad(what.replace("?", "" + number), x -> call.on(x, number));
        }
    }

    private static void newObject() {
        String first = "i0,0,2;i1,2,5;i2,0,3;i3,3,4;i1,0,6;b15,1;b5,1;b14,0;b11,1;s2;s0;g2;";
        Check.edge("a new object: at first");
        SecondOboe x = Check.laid(first);
        x.wipe();
        Check.due("1 if as when the first text is laid", 1, everything(x).equals(UNTOUCHED[AS_MADE]) ? 1 : 0);
        SecondOboe made = new SecondOboe();
        int[] want = {5, 4, 1, 0, 0, 0, 0, 0};
        for (int what = 0; what < 8; what++) {
            Check.due("count(" + what + ")", want[what], made.count(what));
        }
        Check.due("the text is empty", 0, made.wipe());
        Check.edge("a new object: another one is let be");
        made.change(0, 1);
        made.bribe(0);
        made.keep();
        made.heard(0, 0, 0);
        made.write('g');
        Check.due("1 if as the first one made", 1, everything(new SecondOboe()).equals(UNTOUCHED[AS_MADE]) ? 1 : 0);
    }

    private static void write() {
        Check.edge("write: a letter (32 to 126): BAD");
        badOutside("write(?)", 32, 126, SecondOboe::write);
        Check.edge("write: a letter (32 to 126), each");
        SecondOboe x = new SecondOboe();
        for (int letter = 32; letter <= 126; letter++) {
            Check.due("write(" + letter + ")", letter - 31, x.write(letter));
        }
        Check.edge("write: FULL");
        changesNothing("write(32)", FULL_UP, FULL, y -> y.write(32));
        changesNothing("write(126)", FULL_UP, FULL, y -> y.write(126));
        Check.edge("write: BAD ahead of FULL");
        changesNothing("write(31)", FULL_UP, BAD, y -> y.write(31));
        changesNothing("write(127)", FULL_UP, BAD, y -> y.write(127));
    }

    private static void wipe() {
        Check.edge("wipe: how long it was: nothing, all");
        SecondOboe x = new SecondOboe();
        Check.due("nothing", 0, x.wipe());
        Check.due("nothing again", 0, x.wipe());
        Check.due("200", 200, object(FULL_UP).wipe());
        SecondOboe used = object(USED);
        used.wipe();
        Check.due("the band stays", 5, used.count(0));
        Check.due("lay of nothing", NO, used.lay());
        Check.due("bribes stay", 2, used.count(3));
    }

    private static void fault() {
        Check.edge("fault: NONE");
        changesNothing("fault of nothing", AS_MADE, NONE, SecondOboe::fault);
        changesNothing("fault of a band", USED, NONE, SecondOboe::fault);
        Check.edge("fault: changes nothing");
        changesNothing("fault behind a band", FULL_UP, BAND.length(), SecondOboe::fault);
    }

    private static void lay() {
        Check.edge("lay: NO, and nothing changes then");
        changesNothing("lay of nothing", AS_MADE, NO, SecondOboe::lay);
        changesNothing("lay of a text with a fault", FULL_UP, NO, SecondOboe::lay);
        String[] no = {"i", "i0,6,0;", "b0,2;", "g6;", "s5;", "x", ";"};
        for (String more : no) {
            SecondOboe x = object(USED);
            SecondOboe y = object(USED);
            write(x, more);
            write(y, more);
            Check.due("lay with " + more, NO, x.lay());
            Check.due("lay with " + more + ", 1 if nothing changed", 1, everything(x).equals(everything(y)) ? 1 : 0);
        }
        Check.edge("lay: nobody bribed, nothing HEARD, UNDONE, KEPT (THE TEXT stays)");
        SecondOboe x = object(USED);
        Check.due("lay", 5, x.lay());
        int[] want = {5, 4, 2, 0, 0, 0, 0, BAND.length()};
        for (int what = 0; what < 8; what++) {
            Check.due("count(" + what + ")", want[what], x.count(what));
        }
        Check.sits("as told", x, 3, 0, 1, 2, 4);
        Check.due("undo", NO, x.undo());
        Check.due("back", NO, x.back());
        Check.due("forget", 0, x.forget());
        Check.due("keep", 1, x.keep());
        Check.due("keep", 2, x.keep());
    }

    private static void instrument() {
        Check.edge("instrument: BAD");
        for (int what = 0; what < 6; what++) {
            int fixed = what;
            badOutside("instrument(?, " + what + ")", 0, 4, (x, i) -> x.instrument(i, fixed));
        }
        for (int i = 0; i < 5; i += 4) {
            int fixed = i;
            badOutside("instrument(" + i + ", ?)", 0, 5, (x, what) -> x.instrument(fixed, what));
        }
        bad("instrument(5, 6)", x -> x.instrument(5, 6));
        bad("instrument(-1, -1)", x -> x.instrument(-1, -1));
        Check.edge("instrument: its seat (3): the first, the last");
        SecondOboe x = Check.laid("i0,0,0;".repeat(7) + "s6;s1;s2;s3;s4;s5;s0;");
        int[] seats = {6, 1, 2, 3, 4, 5, 0};
        for (int i = 0; i < 7; i++) {
            Check.due("instrument(" + i + ", 3)", seats[i], x.instrument(i, 3));
        }
        SecondOboe one = Check.laid("i0,0,0;");
        Check.due("the only seat", 0, one.instrument(0, 3));
    }

    private static void seatsAndBars() {
        Check.edge("seat: BAD");
        badOutside("seat(?)", 0, 4, SecondOboe::seat);
        Check.edge("asked: BAD");
        badOutside("asked(?)", 0, 3, SecondOboe::asked);
        Check.edge("plays: BAD");
        badOutside("plays(?)", 0, 3, SecondOboe::plays);
        Check.edge("missing: BAD");
        badOutside("missing(?)", 0, 3, SecondOboe::missing);
    }

    private static void evenings() {
        Check.edge("first: NONE, and nothing changes then");
        SecondOboe x = object(AS_MADE);
        x.bribe(3);
        Check.due("first", NONE, x.first());
        Check.due("one can be undone", 1, x.count(5));
        Check.edge("notes: NOTES (what = 0), WHOLE BARS (1): BAD");
        badOutside("notes(?)", 0, 1, SecondOboe::notes);
    }

    private static void change() {
        Check.edge("change: BAD");
        badOutside("change(?, 0)", 0, 4, (x, a) -> x.change(a, 0));
        badOutside("change(4, ?)", 0, 4, (x, b) -> x.change(4, b));
        bad("change(5, 6)", x -> x.change(5, 6));
        Check.edge("change: BAD (alike, too)");
        for (int s = 0; s < 5; s++) {
            int both = s;
            bad("change(" + s + ", " + s + ")", x -> x.change(both, both));
        }
        bad("change(5, 5)", x -> x.change(5, 5));
        bad("change(-1, -1)", x -> x.change(-1, -1));
        Check.edge("change: who sits on a then: the first and the last seat");
        SecondOboe x = new SecondOboe();
        Check.due("change(0, 4)", 4, x.change(0, 4));
        Check.due("change(4, 0)", 4, x.change(4, 0));
        Check.sits("as at first", x, 2, 0, 1, 3, 4);
    }

    private static void bribe() {
        Check.edge("bribe: BAD");
        badOutside("bribe(?)", 0, 4, SecondOboe::bribe);
        Check.edge("bribe: bribed, or no more: what all bribes cost then");
        SecondOboe x = Check.laid("i0,0,30;".repeat(7));
        for (int i = 6; i >= 0; i--) {
            Check.due("bribe(" + i + ")", 30 * (7 - i), x.bribe(i));
        }
        for (int i = 0; i < 7; i++) {
            Check.due("bribe(" + i + ") no more", 30 * (6 - i), x.bribe(i));
        }
    }

    private static void undo() {
        Check.edge("undo: NO, and nothing changes then");
        changesNothing("undo of nothing", AS_MADE, NO, SecondOboe::undo);
        SecondOboe x = object(USED);
        for (int k = x.count(5); k > 0; k--) {
            Check.due("undo", k - 1, x.undo());
        }
        Check.sits("as told", x, 3, 0, 1, 2, 4);
        Check.due("undo", NO, x.undo());
        Check.sits("still as told", x, 3, 0, 1, 2, 4);
        Check.due("nobody bribed", 0, x.count(3));
        Check.due("still kept", 1, x.count(6));
        Check.edge("undo: an undo can't be undone");
        x.bribe(0);
        x.undo();
        Check.due("undo", NO, x.undo());
    }

    private static void best() {
        Check.edge("best: as many NOTES (s = -1), who sits on a seat: BAD");
        badOutside("best(?)", -1, 4, SecondOboe::best);
    }

    private static void changes() {
        Check.edge("changes: NONE");
        changesNothing("changes", AS_MADE, NONE, SecondOboe::changes);
    }

    private static void helpAndBribes() {
        Check.edge("help: BAD");
        badOutside("help(?)", 0, 1, SecondOboe::help);
        Check.edge("help: NONE; BAD ahead of NONE");
        changesNothing("help(0)", AS_MADE, NONE, x -> x.help(0));
        changesNothing("help(1)", AS_MADE, NONE, x -> x.help(1));
        changesNothing("help(2)", AS_MADE, BAD, x -> x.help(2));
        changesNothing("help(-1)", AS_MADE, BAD, x -> x.help(-1));
        Check.edge("bribes: BAD");
        badOutside("bribes(?)", 0, 1, SecondOboe::bribes);
    }

    private static void restsAndSilence() {
        Check.edge("rests: changes nothing");
        changesNothing("rests", AS_MADE, 1, SecondOboe::rests);
        Check.edge("silence: BAD");
        badOutside("silence(?)", 0, 4, SecondOboe::silence);
    }

    private static void likely() {
        Check.edge("odds: BAD");
        badOutside("odds(?)", 0, 1, SecondOboe::odds);
        Check.edge("atLeast: BAD");
        badOutside("atLeast(?, 0)", 0, 56, (x, n) -> x.atLeast(n, 0));
        badOutside("atLeast(?, 1)", 0, 56, (x, n) -> x.atLeast(n, 1));
        badOutside("atLeast(0, ?)", 0, 1, (x, part) -> x.atLeast(0, part));
        badOutside("atLeast(56, ?)", 0, 1, (x, part) -> x.atLeast(56, part));
        bad("atLeast(57, 2)", x -> x.atLeast(57, 2));
    }

    private static void heard() {
        Check.edge("heard: BAD");
        badOutside("heard(?, 0, 0)", 0, 4, (x, i) -> x.heard(i, 0, 0));
        badOutside("heard(4, ?, 1)", 0, 3, (x, bar) -> x.heard(4, bar, 1));
        badOutside("heard(0, 3, ?)", 0, 1, (x, played) -> x.heard(0, 3, played));
        bad("heard(5, 4, 2)", x -> x.heard(5, 4, 2));
        Check.edge("heard: FULL");
        changesNothing("heard(0, 0, 0)", FULL_UP, FULL, x -> x.heard(0, 0, 0));
        changesNothing("heard(4, 3, 1)", FULL_UP, FULL, x -> x.heard(4, 3, 1));
        Check.edge("heard: BAD ahead of FULL");
        changesNothing("heard(5, 0, 0)", FULL_UP, BAD, x -> x.heard(5, 0, 0));
        changesNothing("heard(0, 4, 0)", FULL_UP, BAD, x -> x.heard(0, 4, 0));
        changesNothing("heard(0, 0, 2)", FULL_UP, BAD, x -> x.heard(0, 0, 2));
    }

    private static void forget() {
        Check.edge("forget: nothing is HEARD: how many were: none, eight");
        changesNothing("forget of nothing", AS_MADE, 0, SecondOboe::forget);
        SecondOboe x = object(FULL_UP);
        Check.due("forget", 8, x.forget());
        Check.due("forget again", 0, x.forget());
        Check.due("undone stay", 8, x.count(5));
        Check.due("kept stay", 2, x.count(6));
    }

    private static void kinds() {
        Check.edge("kinds: BAD");
        badOutside("kinds(?)", 0, 4, SecondOboe::kinds);
    }

    private static void hall() {
        Check.edge("hall: BAD (k: seats but the last one, 9)");
        TreeSet<Integer> none = outside(0, 3);
        for (int k = 4; k < 11; k++) {
            none.add(k);
        }
        none.remove(9);
        for (int k : none) {
            bad("hall(" + k + ")", x -> x.hall(k));
        }
    }

    private static void tour() {
        Check.edge("tour: z (0 to 9999): BAD");
        badOutside("tour(?, 1, 0)", 0, 9999, (x, z) -> x.tour(z, 1, 0));
        badOutside("tour(?, 20, 1)", 0, 9999, (x, z) -> x.tour(z, 20, 1));
        Check.edge("tour: n (1 to 20): BAD");
        badOutside("tour(0, ?, 0)", 1, 20, (x, n) -> x.tour(0, n, 0));
        bad("tour(0, 0, 0)", x -> x.tour(0, 0, 0));
        Check.edge("tour: evenings (what = 0), NOTES (1): BAD");
        badOutside("tour(0, 1, ?)", 0, 1, (x, what) -> x.tour(0, 1, what));
        bad("tour(10000, 21, 2)", x -> x.tour(10000, 21, 2));
    }

    private static void keep() {
        Check.edge("keep: FULL");
        changesNothing("keep", FULL_UP, FULL, SecondOboe::keep);
    }

    private static void back() {
        Check.edge("back: NO");
        changesNothing("back", AS_MADE, NO, SecondOboe::back);
        SecondOboe used = object(USED);
        used.back();
        used.bribe(2);
        Check.due("back", NO, used.back());
        Check.due("what can be undone stays", 1, used.count(5));
        Check.due("what was heard stays", 3, used.count(4));
        Check.edge("back: nothing is UNDONE then");
        SecondOboe x = object(FULL_UP);
        Check.due("back", 1, x.back());
        Check.due("undo", NO, x.undo());
        Check.due("nothing can be", 0, x.count(5));
        x.bribe(0);
        Check.due("back", 0, x.back());
        Check.due("undo", NO, x.undo());
        Check.sits("as told", x, 3, 0, 1, 2, 4);
        Check.edge("back: as KEPT last");
        SecondOboe told = Check.laid(BAND);
        told.keep();
        String asTold = played(told);
        SecondOboe behind = object(FULL_UP);
        Check.due("1 if played otherwise ahead of it", 1, played(behind).equals(asTold) ? 0 : 1);
        behind.back();
        behind.back();
        Check.due("1 if played as told", 1, played(behind).equals(asTold) ? 1 : 0);
    }

    private static String played(SecondOboe x) {
        StringBuilder all = new StringBuilder();
        for (int bar = 0; bar < 4; bar++) {
            add(all, x.plays(bar), x.instrument(bar, 5));
        }
        add(all, x.notes(0), x.alike(), x.changes(), x.odds(0), x.odds(1), x.help(0), x.rests());
        return all.toString();
    }

    private static void count() {
        Check.edge("count: BAD");
        badOutside("count(?)", 0, 7, SecondOboe::count);
        Check.edge("count: the most");
        SecondOboe x = object(FULL_UP);
        int[] want = {5, 4, 2, 4, 8, 8, 2, 200};
        for (int what = 0; what < 8; what++) {
            Check.due("count(" + what + ")", want[what], x.count(what));
        }
        SecondOboe most = Check.laid("i0,0,0;".repeat(7) + "b0,0;".repeat(8) + "g0;g1;g2;g3;g4;g5;");
        for (int i = 0; i < 7; i++) {
            most.bribe(i);
        }
        int[] counts = {7, 8, 6, 7};
        for (int what = 0; what < 4; what++) {
            Check.due("count(" + what + ")", counts[what], most.count(what));
        }
    }

    private static void sizes() {
        Check.edge("BAD: INSTRUMENTS, seats: such as there are");
        for (int size = 1; size <= 7; size++) {
            SecondOboe x = Check.laid("i0,0,1;".repeat(size) + "b1,0;");
            int last = size - 1;
            Check.due("kind of the last of " + size, 0, x.instrument(last, 0));
            Check.due("kind behind the last of " + size, BAD, x.instrument(size, 0));
            Check.due("the last seat of " + size, last, x.seat(last));
            Check.due("a seat behind the last of " + size, BAD, x.seat(size));
            Check.due("bribe behind the last of " + size, BAD, x.bribe(size));
            Check.due("bribe the last of " + size, 1, x.bribe(last));
            Check.due("best on the last of " + size, last, x.best(last));
            Check.due("best behind the last of " + size, BAD, x.best(size));
            Check.due("silence of the last of " + size, last == 0 ? 101 : 100, x.silence(last));
            Check.due("silence behind the last of " + size, BAD, x.silence(size));
            Check.due("heard of the last of " + size, 1, x.heard(last, 0, last == 0 ? 1 : 0));
            Check.due("heard behind the last of " + size, BAD, x.heard(size, 0, 0));
            Check.due("kinds of the last of " + size, 15, x.kinds(last));
            Check.due("kinds behind the last of " + size, BAD, x.kinds(size));
            Check.due("hall behind the last but one of " + size, size == 1 ? BAD : 1, x.hall(size - 2));
            Check.due("hall behind the last of " + size, BAD, x.hall(last));
            Check.due("change behind the last of " + size, BAD, x.change(0, size));
            Check.due("change ahead behind the last of " + size, BAD, x.change(size, 0));
            Check.due("change the last of " + size, size == 1 ? BAD : 0, x.change(last, 0));
        }
    }

    private static void bars() {
        Check.edge("BAD: BARS such as there are");
        for (int bars = 0; bars <= 8; bars++) {
            SecondOboe x = Check.laid("i0,0,0;i1,0,0;" + "b3,0;".repeat(bars));
            int last = bars - 1;
            Check.due("asked in the last of " + bars, bars == 0 ? BAD : 3, x.asked(last));
            Check.due("plays in the last of " + bars, bars == 0 ? BAD : 1, x.plays(last));
            Check.due("missing in the last of " + bars, bars == 0 ? BAD : 2, x.missing(last));
            Check.due("heard in the last of " + bars, bars == 0 ? BAD : 1, x.heard(1, last, 0));
            Check.due("asked behind the last of " + bars, BAD, x.asked(bars));
            Check.due("plays behind the last of " + bars, BAD, x.plays(bars));
            Check.due("missing behind the last of " + bars, BAD, x.missing(bars));
            Check.due("heard behind the last of " + bars, BAD, x.heard(0, bars, 0));
            Check.due("rests of " + bars, bars, x.rests());
        }
    }

    private static void smallerBand() {
        Check.edge("BAD: such as there are, behind a greater band");
        SecondOboe x = Check.laid("i0,0,30;".repeat(7) + "b15,7;".repeat(8) + "g0;g5;s6;");
        x.best(-1);
        x.wipe();
        Check.write(x, "i1,1,3;i0,0,4;b3,0;");
        Check.due("still seven", 7, x.count(0));
        Check.due("still BAR 7", 127, x.plays(7));
        Check.due("lay", 2, x.lay());
        Check.due("seat(2)", BAD, x.seat(2));
        Check.due("instrument(6, 2)", BAD, x.instrument(6, 2));
        Check.due("plays(1)", BAD, x.plays(1));
        Check.due("no gaps", 0, x.count(2));
        Check.sits("as told", x, 0, 1);
        Check.due("beside", 2, x.instrument(0, 5));
        Check.due("best(-1)", 1, x.best(-1));
        Check.due("best(2)", BAD, x.best(2));
        Check.due("alike", 2, x.alike());
        Check.due("atLeast(2, 0)", 0, x.atLeast(2, 0));
        Check.due("bribes", 1, x.bribes(0));
        Check.due("hall(0)", 2, x.hall(0));
        Check.due("hall(1)", BAD, x.hall(1));
        Check.due("bribe(1)", 4, x.bribe(1));
    }

    private static void lastCall() {
        Check.edge("at most 512 calls after it has been made");
        SecondOboe x = new SecondOboe();
        for (int k = 0; k < 127; k++) {
            Check.due("bribe(3)", k % 2 == 0 ? 4 : 0, x.bribe(3));
            Check.due("change(0, 4)", k % 2 == 0 ? 4 : 2, x.change(0, 4));
            Check.due("first", k % 2 == 0 ? 0 : 2, x.first());
            Check.due("count(5)", Math.min(8, 2 * k + 2), x.count(5));
        }
        Check.due("call 509", 7, x.undo());
        Check.due("call 510", 6, x.undo());
        Check.due("call 511", 2, x.first());
        Check.due("call 512", 2, x.seat(0));
    }
}
