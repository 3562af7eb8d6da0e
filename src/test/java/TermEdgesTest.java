/** Terms: each sentence that names a boundary, on it and one beyond. Wants are reckoned by hand. */
public final class TermEdgesTest {
    private static final int NONE = SecondOboe.NONE, NO = SecondOboe.NO, BAD = SecondOboe.BAD, FULL = SecondOboe.FULL;
    private static final String SEVEN = "i0,0,0;".repeat(7);
    /** Each of the seven sulks at one who sits beside it, so that nobody plays. */
    private static final String ALL_SULK = "i1,1,30;i1,0,30;i1,1,30;i1,2,30;i1,3,30;i1,4,30;i1,5,30;";
    /** 0 sulks if it sits beside 1; all others play. */
    private static final String ONE_SULKS = "i1,1,0;i0,0,0;i0,0,0;i0,0,0;b15,0;";
    /** Whole by 2, 1, 3, 5, 0, 6, 4 and the same from behind alone. */
    private static final String TWO_SEATINGS = "i1,4,1;i1,0,1;i3,4,1;i1,0,1;i3,5,1;i1,5,1;i3,0,1;b4,0;b13,2;b14,2;b11,5;";

    private TermEdgesTest() {
    }

    public static void main(String[] args) {
        laidOfOneAtLeast();
        laidMinding();
        laidAsking();
        besideAtTheEnds();
        bySitting();
        barZero();
        barAhead();
        whole();
        notes();
        undone();
        missing();
        first();
        best();
        changes();
        help();
        bribes();
        rests();
        silence();
        alike();
        odds();
        atLeast();
        heard();
        kinds();
        hall();
        tour();
        tourDraws();
        tourFromNow();
        kept();
        Check.finish();
    }

    private static void lay(String text, int want) {
        SecondOboe x = Check.written(text);
        Check.due("lay of " + text, want, x.lay());
        Check.due("count(0) behind " + text, want == NO ? 5 : want, x.count(0));
    }

    private static void plays(String what, SecondOboe x, int... want) {
        for (int bar = 0; bar < want.length; bar++) {
            Check.due(what + ": plays(" + bar + ")", want[bar], x.plays(bar));
        }
        Check.due(what + ": bars", want.length, x.count(1));
    }

    private static void laidOfOneAtLeast() {
        Check.edge("LAID: of an INSTRUMENT at least");
        lay("", NO);
        lay("b0,0;", NO);
        lay("g0;", NO);
        lay("g0;b0,0;g5;", NO);
        lay("i0,0,0;", 1);
        Check.edge("LAID: a TEXT without FAULT");
        lay("i0,0,0;i", NO);
        lay("xi0,0,0;", NO);
        lay("i0,0,0;g6;", NO);
        lay("i0,0,0;g5;", 1);
    }

    private static void laidMinding() {
        Check.edge("LAID: all minding only such as there are");
        for (int size = 1; size <= 7; size++) {
            String others = "i0,0,0;".repeat(size - 1);
            lay("i0," + (size - 1) + ",0;" + others, size);
            lay(others + "i0," + (size - 1) + ",0;", size);
            if (size < 7) {
                lay("i0," + size + ",0;" + others, NO);
                lay(others + "i0," + size + ",0;", NO);
                lay("i0,6,0;" + others, NO);
            }
        }
    }

    private static void laidAsking() {
        Check.edge("LAID: all BARS asking only such as there are");
        for (int size = 1; size <= 7; size++) {
            String band = "i0,0,0;".repeat(size);
            int all = (1 << size) - 1;
            lay(band + "b" + (all & 15) + "," + (all >> 4) + ";", size);
            for (int i = size; i < 7; i++) {
                String bar = "b" + (1 << i & 15) + "," + (1 << i >> 4) + ";";
                lay(band + bar + "b1,0;", NO);
                lay(band + "b1,0;b0,0;" + bar, NO);
            }
        }
        Check.edge("LAID: no BARS");
        SecondOboe x = Check.laid("i0,0,0;i3,0,0;");
        Check.due("no BAR", 0, x.count(1));
        Check.due("first", NONE, x.first());
        Check.due("changes", 0, x.changes());
        Check.due("bribes", 0, x.bribes(0));
        Check.due("alike", 2, x.alike());
        Check.due("odds", 1, x.odds(0));
    }

    private static void besideAtTheEnds() {
        Check.edge("BESIDE are two on next seats: at the ends of the row");
        SecondOboe x = Check.laid(SEVEN + "s6;s2;s0;s1;s3;s4;s5;");
        Check.due("beside 6, on seat 0", 4, x.instrument(6, 5));
        Check.due("beside 5, on seat 6", 16, x.instrument(5, 5));
        Check.due("beside 2, on seat 1", 65, x.instrument(2, 5));
        Check.due("alone", 0, Check.laid("i0,0,0;").instrument(0, 5));
        SecondOboe two = Check.laid("i0,0,0;i0,0,0;");
        Check.due("of two, beside 0", 2, two.instrument(0, 5));
        Check.due("of two, beside 1", 1, two.instrument(1, 5));
        Check.edge("BESIDE: without a GAP between");
        SecondOboe parted = Check.laid(SEVEN + "g0;g5;");
        int[] want = {0, 4, 10, 20, 40, 16, 0};
        for (int i = 0; i < 7; i++) {
            Check.due("beside " + i, want[i], parted.instrument(i, 5));
        }
        parted.change(0, 3);
        Check.due("who sits ahead of the gap then", 0, parted.instrument(3, 5));
        Check.due("who sits between others then", 20, parted.instrument(0, 5));
    }

    private static void bySitting() {
        Check.edge("SULKING ones, if whom they mind is not BESIDE them");
        plays("beside, though never asked", Check.laid("i1,1,0;i0,0,0;b1,0;b1,0;"), 0, 0);
        plays("beside behind the last seat's gap", Check.laid("i1,1,0;i0,0,0;b1,0;g1;"), 0);
        plays("parted by a gap", Check.laid("i1,1,0;i0,0,0;b1,0;g0;"), 1);
        plays("parted by one between", Check.laid("i1,2,0;i0,0,0;i0,0,0;b1,0;"), 1);
        plays("itself", Check.laid("i1,0,0;i0,0,0;b1,0;b1,0;"), 1, 1);
        Check.edge("who is asked and is bribed, or by KIND");
        SecondOboe x = Check.laid("i0,0,0;i1,0,0;b0,0;b2,0;");
        x.bribe(0);
        plays("bribed, not asked; asked, not bribed", x, 0, 0);
        x.bribe(1);
        plays("asked and bribed", x, 0, 2);
    }

    private static void barZero() {
        Check.edge("in BAR 0 always (LOYAL, SHY)");
        plays("loyal to one who rests, shy, sulking not", Check.laid("i2,1,0;i1,0,0;i3,1,0;b7,0;b5,0;"), 5, 4);
        plays("loyal to one never asked", Check.laid("i2,1,0;i0,0,0;b1,0;b1,0;"), 1, 0);
        plays("shy ones in a row", Check.laid("i3,0,0;i3,0,0;i3,0,0;b7,0;b7,0;b7,0;"), 7, 0, 7);
        plays("in bar 0 if asked only", Check.laid("i2,0,0;i3,0,0;b0,0;b3,0;"), 0, 2);
        plays("in bar 0, the only one", Check.laid("i2,0,0;b1,0;"), 1);
    }

    private static void barAhead() {
        Check.edge("by what was PLAYED in the BAR ahead");
        plays("loyal, two bars behind", Check.laid("i2,1,0;i0,0,0;b2,0;b0,0;b1,0;"), 2, 0, 0);
        plays("shy, two bars behind", Check.laid("i3,1,0;i0,0,0;b2,0;b0,0;b1,0;"), 2, 0, 1);
        plays("loyal to one asked that rested", Check.laid("i2,1,0;i1,0,0;b3,0;b3,0;"), 1, 0);
        plays("shy of one asked that rested", Check.laid("i3,1,0;i1,0,0;b3,0;b3,0;"), 1, 1);
        String late = "b0,0;".repeat(6) + "b2,0;b1,0;";
        plays("loyal in the last of eight", Check.laid("i2,1,0;i0,0,0;" + late), 0, 0, 0, 0, 0, 0, 2, 1);
        plays("shy in the last of eight", Check.laid("i3,1,0;i0,0,0;" + late), 0, 0, 0, 0, 0, 0, 2, 0);
        Check.edge("all at once");
        plays("two loyal to one another", Check.laid("i2,1,0;i2,0,0;b1,0;b3,0;b3,0;"), 1, 2, 1);
    }

    private static void whole() {
        Check.edge("a BAR is WHOLE in which all asked play: nobody asked");
        SecondOboe x = Check.laid(ALL_SULK + "b0,0;".repeat(8));
        Check.due("eight whole bars", 8, x.notes(1));
        Check.due("no notes", 0, x.notes(0));
        Check.due("first", NONE, x.first());
        Check.due("odds", 1, x.odds(0));
        Check.edge("a BAR is WHOLE: all but one");
        SecondOboe one = Check.laid("i0,0,0;i0,0,0;i1,1,0;b7,0;b3,0;");
        Check.due("one whole bar", 1, one.notes(1));
        Check.due("the other is first", 0, one.first());
    }

    private static void notes() {
        Check.edge("NOTES are how often any plays, in all BARS: the least, the most");
        Check.due("none", 0, Check.laid(ALL_SULK + "b15,7;".repeat(8)).notes(0));
        Check.due("none without bars", 0, Check.laid(SEVEN).notes(0));
        Check.due("56", 56, Check.laid(SEVEN + "b15,7;".repeat(8)).notes(0));
        Check.due("one", 1, Check.laid(SEVEN + "b0,0;b0,4;").notes(0));
    }

    private static void undone() {
        Check.edge("the last 8 can be (UNDONE)");
        SecondOboe x = new SecondOboe();
        for (int k = 1; k <= 8; k++) {
            x.bribe(k == 1 ? 0 : 1);
            Check.due("can be undone", k, x.count(5));
        }
        x.change(3, 4);
        Check.due("eight of nine", 8, x.count(5));
        for (int left = 7; left >= 0; left--) {
            Check.due("undo", left, x.undo());
        }
        Check.due("the first of nine can't be", NO, x.undo());
        Check.due("it stays", 1, x.instrument(0, 4));
        Check.due("the others don't", 1, x.count(3));
        Check.edge("the last 8 can be, of a hundred");
        SecondOboe many = new SecondOboe();
        for (int k = 0; k < 100; k++) {
            Check.due("what all bribes cost", costBehind(k), many.bribe(k % 5));
        }
        for (int left = 7; left >= 0; left--) {
            Check.due("undo", left, many.undo());
            Check.due("bribed behind it", bribedBehind(91 + left), bribes(many));
        }
        Check.due("the ninth from the end can't be", NO, many.undo());
        Check.edge("such by which nothing becomes another, too");
        SecondOboe same = new SecondOboe();
        same.change(0, 1);
        same.change(1, 0);
        same.bribe(2);
        same.bribe(2);
        Check.due("four can be undone", 4, same.count(5));
        Check.due("the bribe back", 3, same.undo());
        Check.due("2 is bribed", 1, same.instrument(2, 4));
        Check.due("the bribe", 2, same.undo());
        Check.due("2 is not", 0, same.instrument(2, 4));
        Check.due("the change back", 1, same.undo());
        Check.sits("changed", same, 0, 2, 1, 3, 4);
        Check.due("the change", 0, same.undo());
        Check.sits("as at first", same, 2, 0, 1, 3, 4);
    }

    /** Bribes 0 to last of k modulo 5 each turn one over. */
    private static int bribedBehind(int last) {
        int set = 0;
        for (int k = 0; k <= last; k++) {
            set ^= 1 << k % 5;
        }
        return set;
    }

    private static int costBehind(int last) {
        int[] price = {2, 5, 3, 4, 6};
        int sum = 0;
        for (int i = 0; i < 5; i++) {
            sum += (bribedBehind(last) >> i & 1) * price[i];
        }
        return sum;
    }

    private static int bribes(SecondOboe x) {
        int set = 0;
        for (int i = 0; i < x.count(0); i++) {
            set |= x.instrument(i, 4) << i;
        }
        return set;
    }

    private static void missing() {
        Check.edge("MISSING: who is asked and does not play: all, none, nobody asked");
        SecondOboe all = Check.laid(ALL_SULK + "b15,7;b0,0;b0,4;");
        Check.due("all", 127, all.missing(0));
        Check.due("nobody asked", 0, all.missing(1));
        Check.due("the last one", 64, all.missing(2));
        Check.due("none", 0, Check.laid(SEVEN + "b15,7;").missing(0));
    }

    private static void first() {
        Check.edge("FIRST: the first BAR that is not WHOLE");
        String band = "i1,1,0;i0,0,0;";
        Check.due("bar 0 of eight", 0, Check.laid(band + "b3,0;".repeat(8)).first());
        Check.due("bar 7 of eight", 7, Check.laid(band + "b2,0;".repeat(7) + "b1,0;").first());
        Check.due("the first of two", 1, Check.laid(band + "b0,0;b1,0;b2,0;b3,0;").first());
        Check.edge("FIRST: none");
        Check.due("all whole", NONE, Check.laid(band + "b2,0;b0,0;").first());
    }

    private static void best(String text, int most, int... sitting) {
        SecondOboe x = Check.laid(text);
        Check.due("best(-1) of " + text, most, x.best(-1));
        for (int s = 0; s < sitting.length; s++) {
            Check.due("best(" + s + ") of " + text, sitting[s], x.best(s));
        }
    }

    private static void best() {
        Check.edge("BEST: of several the first (by who sits on seat 0, the lowest, then 1, ..)");
        best(SEVEN + "b15,7;s6;s5;s4;", 7, 0, 1, 2, 3, 4, 5, 6);
        best(ONE_SULKS, 4, 0, 2, 1, 3);
        best("i1,2,0;i1,2,0;i0,0,0;i0,0,0;b15,0;s3;", 4, 0, 1, 3, 2);
        best(TWO_SEATINGS, 14, 2, 1, 3, 5, 0, 6, 4);
        Check.edge("BEST: none plays anyhow; one alone");
        best("i0,0,0;i0,0,0;i0,0,0;b0,0;s2;s1;", 0, 0, 1, 2);
        best("i0,0,0;i0,0,0;s1;", 0, 0, 1);
        best("i2,0,0;b1,0;b1,0;", 2, 0);
        Check.edge("BEST: bribes, GAPS as they are");
        best(ONE_SULKS + "g0;", 4, 0, 1, 2, 3);
        SecondOboe x = Check.laid(ONE_SULKS);
        x.bribe(0);
        Check.due("who sits on seat 1 if 0 is bribed", 1, x.best(1));
    }

    private static void changes() {
        Check.edge("CHANGES: none to be made");
        Check.due("whole now", 0, Check.laid("i0,0,0;b1,0;").changes());
        Check.due("whole now, gap", 0, Check.laid(ONE_SULKS + "g0;").changes());
        Check.edge("CHANGES: one, the most that seven can need");
        Check.due("one", 1, Check.laid(ONE_SULKS).changes());
        Check.due("one from the seats as told from behind", 1, Check.laid(TWO_SEATINGS + "s4;s6;s0;s5;s3;s2;s1;").changes());
        Check.due("from the seats as told", 0, Check.laid(TWO_SEATINGS + "s4;s6;s0;s5;s3;s1;s2;").changes());
        // Three changes turn a row of seven round: where six lead to one of the two, an odd number leads to the other.
        Check.due("five, or six", 5, Check.laid(TWO_SEATINGS).changes());
        Check.due("six, or five", 5, Check.laid(TWO_SEATINGS + "s0;s2;s1;").changes());
        Check.edge("CHANGES: none (by none are they)");
        Check.due("three that can't be parted", NONE, Check.laid("i1,1,0;i0,0,0;b1,0;").changes());
        Check.due("one alone", NONE, Check.laid("i2,0,0;b0,0;b1,0;").changes());
    }

    private static void help(String text, int which, int most) {
        SecondOboe x = Check.laid(text);
        Check.due("help(0) of " + text, which, x.help(0));
        Check.due("help(1) of " + text, most, x.help(1));
    }

    private static void help() {
        String three = "i1,1,0;i0,0,0;i0,0,0;b7,0;";
        Check.edge("HELP: of several the first: 8 times a and b");
        help(three + "g0;s2;s0;s1;", 1, 3);
        help(three, 8 + 2, 3);
        help(ONE_SULKS, 3, 4);
        // The four shy ones would rest among the last three: changing with these brings less than 5 and 6.
        help("i3,0,0;i3,0,0;i3,0,0;i3,0,0;i1,5,0;i1,4,0;i0,0,0;b15,7;b15,7;b15,7;g0;g1;g2;g3;", 8 * 5 + 6, 21);
        Check.edge("HELP: none (by none more than now)");
        help(SEVEN + "b15,7;", NONE, NONE);
        help("i1,1,0;i0,0,0;b3,0;", NONE, NONE);
        help("i1,1,0;i1,0,0;b3,0;", NONE, NONE);
        help("i0,0,0;b1,0;", NONE, NONE);
        help(three + "s0;s2;s1;", NONE, NONE);
    }

    private static void bribes(String text, int set, int cost) {
        SecondOboe x = Check.laid(text);
        Check.due("bribes(0) of " + text, set, x.bribes(0));
        Check.due("bribes(1) of " + text, cost, x.bribes(1));
    }

    private static void bribes() {
        Check.edge("BRIBES: nobody, everybody");
        bribes(SEVEN + "b15,7;", 0, 0);
        bribes(ALL_SULK + "b0,0;", 0, 0);
        bribes(ALL_SULK + "b15,7;", 127, 210);
        bribes(ALL_SULK + "b0,4;", 64, 30);
        Check.edge("BRIBES: of several the lowest (bits)");
        bribes("i0,0,0;i1,0,0;i0,0,0;b7,0;", 2, 0);
        bribes("i0,0,0;i1,0,5;i0,0,0;b7,0;", 2, 5);
        bribes("i0,0,0;i0,0,0;", 0, 0);
        Check.edge("BRIBES: (bribed ones, too) in place of those who are");
        SecondOboe x = Check.laid("i1,1,3;i0,0,1;b3,0;");
        x.bribe(0);
        x.bribe(1);
        Check.due("who must be", 1, x.bribes(0));
        Check.due("as much", 3, x.bribes(1));
        Check.due("both stay bribed", 2, x.count(3));
    }

    private static void rests() {
        Check.edge("RESTS: none, the most");
        Check.due("none", 0, Check.laid(SEVEN + "b15,7;".repeat(8)).rests());
        Check.due("nobody asked", 0, Check.laid(ALL_SULK + "b0,0;".repeat(8)).rests());
        Check.due("no bars", 0, Check.laid(ALL_SULK).rests());
        Check.due("56", 56, Check.laid(ALL_SULK + "b15,7;".repeat(8)).rests());
    }

    private static void silence() {
        Check.edge("SILENCE: and 100 (its own among them)");
        Check.due("never asked anyhow", 100, Check.laid("i0,0,0;i0,0,0;b1,0;").silence(1));
        Check.due("asked, rests", 100, Check.laid("i1,1,0;i0,0,0;b3,0;").silence(0));
        Check.due("no bars", 100, Check.laid("i0,0,0;").silence(0));
        Check.due("its own eight", 108, Check.laid(SEVEN + "b15,7;".repeat(8)).silence(6));
        Check.edge("SILENCE: all loyal to it");
        // 56 NOTES; without it six play in bar 0 alone.
        Check.due("all loyal to 0", 150, Check.laid("i2,0,0;".repeat(7) + "b15,7;".repeat(8)).silence(0));
        Check.edge("SILENCE: under 100");
        // 1 is shy of 0, five are loyal to 1: 8 and 1 and 10 NOTES with 0, 48 without.
        String shy = "i0,0,0;i3,1,0;i2,1,0;i2,1,0;i2,1,0;i2,1,0;i2,1,0;" + "b15,7;".repeat(8) + "g1;";
        SecondOboe x = Check.laid(shy);
        Check.due("NOTES with 0", 19, x.notes(0));
        Check.due("without it", 71, x.silence(0));
        x.bribe(0);
        Check.due("bribed, too", 71, x.silence(0));
    }

    private static void alike() {
        Check.edge("ALIKE: now alone, all there are");
        Check.due("one seat", 1, Check.laid("i0,0,0;b1,0;").alike());
        Check.due("two of 5,040", 2, Check.laid(TWO_SEATINGS + "s2;s1;s3;s5;s0;s6;s4;").alike());
        Check.due("all", 5040, Check.laid(SEVEN + "b15,7;".repeat(8)).alike());
        Check.due("all, no bars", 5040, Check.laid(ALL_SULK).alike());
        Check.edge("ALIKE: the same play in the same BARS: another in one BAR alone");
        // 0 plays in 2 of 6 seatings, where it does not sit beside 1.
        Check.due("in bar 0", 4, Check.laid("i1,1,0;i0,0,0;i0,0,0;b3,0;b6,0;").alike());
        Check.due("in the last", 4, Check.laid("i1,1,0;i0,0,0;i0,0,0;b6,0;b3,0;").alike());
        Check.due("as many in either, but not the same", 2, Check.laid("i1,2,0;i1,2,0;i0,0,0;b3,0;").alike());
    }

    private static void odds(String text, int above, int below) {
        SecondOboe x = Check.laid(text);
        Check.due("odds(0) of " + text, above, x.odds(0));
        Check.due("odds(1) of " + text, below, x.odds(1));
    }

    private static void odds() {
        Check.edge("ODDS, in lowest terms: never, always, between");
        odds("i1,1,0;i0,0,0;b1,0;", 0, 1);
        odds(ALL_SULK.replace("30", "0") + "b15,7;g0;g1;g2;g3;g4;g5;", 1, 1);
        odds("i0,0,0;b1,0;", 1, 1);
        odds(ONE_SULKS, 1, 2);
        odds(ONE_SULKS + "g1;", 2, 3);
        odds(TWO_SEATINGS, 1, 2520);
        Check.edge("ODDS: by bribes as they are, asked once more");
        SecondOboe x = Check.laid(ONE_SULKS);
        Check.due("above", 1, x.odds(0));
        x.bribe(0);
        Check.due("above, bribed", 1, x.odds(0));
        Check.due("below, bribed", 1, x.odds(1));
        x.undo();
        Check.due("below, undone", 2, x.odds(1));
    }

    private static void atLeast(String text, int n, int above, int below) {
        SecondOboe x = Check.laid(text);
        Check.due("atLeast(" + n + ", 0) of " + text, above, x.atLeast(n, 0));
        Check.due("atLeast(" + n + ", 1) of " + text, below, x.atLeast(n, 1));
    }

    private static void atLeast() {
        String most = SEVEN + "b15,7;".repeat(8);
        Check.edge("AT LEAST n (0 to 56) NOTES");
        atLeast(most, 0, 1, 1);
        atLeast(most, 56, 1, 1);
        atLeast(SEVEN + "b15,7;".repeat(7) + "b15,3;", 55, 1, 1);
        atLeast(SEVEN + "b15,7;".repeat(7) + "b15,3;", 56, 0, 1);
        atLeast(ALL_SULK, 0, 1, 1);
        atLeast(ALL_SULK, 1, 0, 1);
        Check.edge("AT LEAST: as many as there are, one more");
        atLeast(ONE_SULKS, 3, 1, 1);
        atLeast(ONE_SULKS, 4, 1, 2);
        atLeast(ONE_SULKS, 5, 0, 1);
        atLeast(TWO_SEATINGS, 14, 1, 2520);
        atLeast(TWO_SEATINGS, 15, 0, 1);
    }

    private static void heard() {
        Check.edge("HEARD (8 at most)");
        SecondOboe x = new SecondOboe();
        for (int k = 1; k <= 8; k++) {
            Check.due("heard", k, x.heard(k % 5, k % 4, k % 2));
        }
        Check.due("a ninth", FULL, x.heard(0, 0, 1));
        Check.due("a ninth, heard already", FULL, x.heard(1, 1, 1));
        Check.due("eight forgotten", 8, x.forget());
        Check.due("room again", 1, x.heard(0, 0, 1));
        Check.edge("HEARD: the same once more, and the contrary");
        SecondOboe same = new SecondOboe();
        Check.due("heard", 1, same.heard(0, 0, 1));
        Check.due("the same", 2, same.heard(0, 0, 1));
        Check.due("fits", 15, same.kinds(0));
        Check.due("the contrary", 3, same.heard(0, 0, 0));
        Check.due("none fits", 0, same.kinds(0));
        Check.edge("HEARD: the last INSTRUMENT in the last BAR");
        SecondOboe last = Check.laid("i0,0,0;".repeat(6) + "i2,0,0;" + "b1,0;".repeat(7) + "b1,4;");
        last.heard(6, 7, 1);
        Check.due("plain, sulking at one afar, loyal, shy of one who does not play", 15, last.kinds(6));
        last.heard(6, 0, 1);
        Check.due("not asked in bar 0", 0, last.kinds(6));
    }

    private static void kinds() {
        Check.edge("KINDS: all, none, one");
        SecondOboe x = Check.laid("i3,1,0;i0,0,0;b1,0;b3,0;b1,0;");
        Check.due("nothing heard", 15, x.kinds(0));
        x.heard(0, 0, 0);
        Check.due("sulking alone", 2, x.kinds(0));
        x.heard(0, 1, 1);
        Check.due("none", 0, x.kinds(0));
        Check.due("of 1 nothing was heard", 15, x.kinds(1));
        Check.edge("KINDS: all else being as it is (not bribed itself)");
        SecondOboe bribed = Check.laid("i1,1,0;i1,0,0;b3,0;");
        bribed.bribe(0);
        bribed.bribe(1);
        bribed.heard(0, 0, 0);
        bribed.heard(1, 0, 0);
        Check.due("0 not bribed", 2, bribed.kinds(0));
        Check.due("1 not bribed", 2, bribed.kinds(1));
        Check.due("both are still", 2, bribed.count(3));
    }

    private static void hall() {
        Check.edge("HALL: but one GAP, behind seat k");
        SecondOboe x = Check.laid(ALL_SULK + "b15,7;g0;g1;g2;g3;g4;g5;");
        Check.due("all gaps", 7, x.notes(0));
        // 1 and 0 sulk at one another, each other at the one ahead of it.
        int[] want = {2, 1, 1, 1, 1, 1};
        for (int k = 0; k < 6; k++) {
            Check.due("hall(" + k + ")", want[k], x.hall(k));
        }
        Check.due("behind the last one", BAD, x.hall(6));
        Check.due("six gaps stay", 6, x.count(2));
        Check.edge("HALL: without any (k 9)");
        Check.due("seven seats", 0, x.hall(9));
        SecondOboe one = Check.laid("i0,0,0;b1,0;g0;");
        Check.due("one seat", 1, one.hall(9));
        Check.due("one seat, behind it", BAD, one.hall(0));
        SecondOboe two = Check.laid("i1,1,0;i0,0,0;b3,0;");
        Check.due("two seats, parted", 2, two.hall(0));
        Check.due("two seats, behind the last", BAD, two.hall(1));
        Check.due("two seats", 1, two.hall(9));
        Check.due("two seats, a gap that is none behind 5 told", 1, Check.laid("i1,1,0;i0,0,0;b3,0;g5;").hall(9));
    }

    private static void tour(String text, int z, int n, int whole, int most) {
        SecondOboe x = Check.laid(text);
        Check.due("tour(" + z + ", " + n + ", 0) of " + text, whole, x.tour(z, n, 0));
        Check.due("tour(" + z + ", " + n + ", 1) of " + text, most, x.tour(z, n, 1));
    }

    private static void tour() {
        Check.edge("A TOUR by z (0 to 9999)");
        // Of four seats z 9999 changes 1 and 3, 1 and 3, 0 and 3; z 0 none, 3 and 0, 2 and 1.
        tour(ONE_SULKS, 9999, 1, 1, 4);
        tour(ONE_SULKS, 9999, 2, 1, 4);
        tour(ONE_SULKS, 9999, 3, 2, 4);
        tour(ONE_SULKS, 0, 2, 1, 4);
        tour(ONE_SULKS, 0, 3, 1, 4);
        Check.edge("A TOUR of n (1 to 20) evenings");
        tour("i0,0,0;b1,0;", 5, 1, 1, 1);
        tour("i0,0,0;b1,0;", 5, 20, 20, 1);
        tour("i1,1,0;i0,0,0;b3,0;", 5, 20, 0, 1);
        tour(ALL_SULK + "b0,0;", 5, 20, 20, 0);
        Check.edge("A TOUR: alike: nothing");
        tour(ONE_SULKS, 0, 1, 0, 3);
        tour(ONE_SULKS + "s0;s2;s1;", 0, 1, 1, 4);
        tour(ONE_SULKS + "s0;s2;s1;", 3, 3, 3, 4);
        Check.edge("A TOUR: modulo as many as there are");
        // Of three seats z 1 changes 0 and 1, none, 0 and 1; of seven z 1 changes 2 and 5, 1 and 3, 2 and 5.
        String three = "i1,1,0;i0,0,0;i0,0,0;b7,0;s2;s0;s1;";
        tour(three, 1, 1, 1, 3);
        tour(three, 1, 2, 2, 3);
        tour(three, 1, 3, 2, 3);
        tour("i1,1,0;i0,0,0;i0,0,0;i0,0,0;i0,0,0;i0,0,0;i0,0,0;b15,7;", 1, 3, 2, 7);
    }

    private static void tourDraws() {
        Check.edge("A TOUR: DRAW being ((x times x) modulo 65521) by 4, cut");
        // z 4: 43735 by 4 is 10933 and three quarters: seats 1 and 2; 10934 were 2 and 2.
        tour(ONE_SULKS, 4, 1, 1, 4);
        Check.edge("A TOUR: b (DRAW by 8, cut)");
        // z 3: 11167 by 8 is 1395 and seven eighths: seats 3 and 3; 1396 were 3 and 0.
        tour(ONE_SULKS, 3, 1, 0, 3);
        Check.edge("A TOUR: x times x, more than 32 bits hold");
        // z 8: 4013602609 leaves 48233: seats 2 and 3. z 9999: 6269802109854724 leaves 51303: seats 1 and 3.
        tour(ONE_SULKS, 8, 1, 0, 3);
        tour(ONE_SULKS, 9999, 1, 1, 4);
        Check.edge("A TOUR: the evening, 0 first");
        // z 0: x 1 and then 6152 change none, and then 3 and 0.
        tour(ONE_SULKS, 0, 1, 0, 3);
        tour(ONE_SULKS, 0, 2, 1, 4);
    }

    private static void tourFromNow() {
        Check.edge("A TOUR: most NOTES in any evening, not now");
        // z 4 changes seats 1 and 2 ahead of its first evening.
        SecondOboe x = Check.laid(ONE_SULKS + "s0;s2;s1;");
        Check.due("now", 4, x.notes(0));
        Check.due("in no evening", 0, x.tour(4, 1, 0));
        Check.due("most in the evening", 3, x.tour(4, 1, 1));
        Check.due("as it was", 4, x.notes(0));
        Check.sits("as it was", x, 0, 2, 1, 3);
        Check.due("nothing to be undone", 0, x.count(5));
        x.bribe(0);
        Check.due("bribed", 1, x.tour(4, 1, 0));
    }

    private static void kept() {
        Check.edge("KEPT are seats, bribes: 2 at most");
        SecondOboe x = new SecondOboe();
        Check.due("none", 0, x.count(6));
        Check.due("one", 1, x.keep());
        x.change(0, 1);
        Check.due("two", 2, x.keep());
        x.change(0, 2);
        Check.due("three", FULL, x.keep());
        x.heard(0, 0, 1);
        x.write('g');
        Check.due("back to the second", 1, x.back());
        Check.sits("the second", x, 0, 2, 1, 3, 4);
        Check.due("what was heard stays", 1, x.count(4));
        Check.due("the text stays", 1, x.count(7));
        x.bribe(4);
        Check.due("room again", 2, x.keep());
        Check.due("back to it", 1, x.back());
        Check.due("4 is bribed", 1, x.instrument(4, 4));
        Check.due("back to the first", 0, x.back());
        Check.sits("the first", x, 2, 0, 1, 3, 4);
        Check.due("4 is not", 0, x.instrument(4, 4));
        Check.due("none left", NO, x.back());
        Check.edge("KEPT: the same twice");
        Check.due("one", 1, x.keep());
        Check.due("two", 2, x.keep());
        Check.due("back", 1, x.back());
        Check.due("back", 0, x.back());
    }
}
