import java.math.BigInteger;
import java.util.ArrayDeque;
import java.util.ArrayList;
import java.util.Arrays;
import java.util.Collections;
import java.util.Deque;
import java.util.HashMap;
import java.util.List;
import java.util.Map;
import java.util.TreeSet;
import java.util.regex.Matcher;
import java.util.regex.Pattern;

/** The document once more, word by word and slowly, with all that the Java library has: random runs are held against it. */
final class PlainOboe {
    private static final int BAD = -1, NO = -2, FULL = -3, NONE = -4;
    private static final Pattern ITEM = Pattern.compile("([ibsg])(\\d{1,2}(?:,\\d{1,2})*);");

    private String text = "";
    private Told told;
    private State state;
    private final Deque<State> undone = new ArrayDeque<>();
    private final Deque<State> kept = new ArrayDeque<>();
    private final List<int[]> heardOnes = new ArrayList<>();

    /** What a text tells. */
    private static final class Told {
        final List<int[]> instruments = new ArrayList<>();
        final List<TreeSet<Integer>> bars = new ArrayList<>();
        final List<Integer> seats = new ArrayList<>();
        final TreeSet<Integer> gaps = new TreeSet<>();
        int fault = NONE;
    }

    /** Seats and bribes. */
    private record State(List<Integer> seats, TreeSet<Integer> bribed) {
        State changed(int a, int b) {
            List<Integer> row = new ArrayList<>(seats);
            Collections.swap(row, a, b);
            return new State(row, bribed);
        }

        State toggled(int i) {
            TreeSet<Integer> set = new TreeSet<>(bribed);
            if (!set.remove(i)) {
                set.add(i);
            }
            return new State(seats, set);
        }
    }

    PlainOboe() {
        text = "i0,0,2;i1,2,5;i2,0,3;i3,3,4;i1,0,6;b15,1;b5,1;b14,0;b11,1;s2;s0;g2;";
        lay();
        text = "";
    }

    private static Told read(String text) {
        Told t = new Told();
        int at = 0;
        while (at < text.length()) {
            Matcher m = ITEM.matcher(text).region(at, text.length());
            if (!m.lookingAt() || !take(t, m.group(1), Arrays.stream(m.group(2).split(",")).map(Integer::valueOf).toList())) {
                t.fault = at;
                return t;
            }
            at = m.end();
        }
        return t;
    }

    private static boolean take(Told t, String letter, List<Integer> n) {
        switch (letter) {
            case "i":
                if (n.size() != 3 || n.get(0) > 3 || n.get(1) > 6 || n.get(2) > 30 || t.instruments.size() == 7) {
                    return false;
                }
                t.instruments.add(new int[] {n.get(0), n.get(1), n.get(2)});
                return true;
            case "b":
                if (n.size() != 2 || n.get(0) > 15 || n.get(1) > 7 || t.bars.size() == 8) {
                    return false;
                }
                t.bars.add(setOf(n.get(0) + 16 * n.get(1)));
                return true;
            case "s":
                if (n.size() != 1 || n.get(0) >= t.instruments.size()) {
                    return false;
                }
                if (!t.seats.contains(n.get(0))) {
                    t.seats.add(n.get(0));
                }
                return true;
            default:
                return n.size() == 1 && n.get(0) <= 5 && (t.gaps.add(n.get(0)) || true);
        }
    }

    private static TreeSet<Integer> setOf(int bits) {
        TreeSet<Integer> set = new TreeSet<>();
        for (int i = 0; i < 7; i++) {
            if ((bits & (1 << i)) != 0) {
                set.add(i);
            }
        }
        return set;
    }

    private static int bits(Iterable<Integer> set) {
        int sum = 0;
        for (int i : set) {
            sum += 1 << i;
        }
        return sum;
    }

    private int size() {
        return told.instruments.size();
    }

    private boolean no(int i) {
        return i < 0 || i >= size();
    }

    private boolean noBar(int bar) {
        return bar < 0 || bar >= told.bars.size();
    }

    private static TreeSet<Integer> beside(int i, List<Integer> seats, TreeSet<Integer> gaps) {
        TreeSet<Integer> set = new TreeSet<>();
        int s = seats.indexOf(i);
        if (s > 0 && !gaps.contains(s - 1)) {
            set.add(seats.get(s - 1));
        }
        if (s < seats.size() - 1 && !gaps.contains(s)) {
            set.add(seats.get(s + 1));
        }
        return set;
    }

    /** Who plays, bar by bar; otherKind is for instrument who alone (no one: -1); never is never asked (no one: -1). */
    private List<TreeSet<Integer>> evening(State by, TreeSet<Integer> gaps, int who, int otherKind, int never) {
        List<TreeSet<Integer>> all = new ArrayList<>();
        for (int bar = 0; bar < told.bars.size(); bar++) {
            TreeSet<Integer> ahead = bar == 0 ? null : all.get(bar - 1);
            TreeSet<Integer> playing = new TreeSet<>();
            for (int i : told.bars.get(bar)) {
                if (i == never) {
                    continue;
                }
                int kind = i == who ? otherKind : told.instruments.get(i)[0];
                int minds = told.instruments.get(i)[1];
                TreeSet<Integer> near = beside(i, by.seats, gaps);
                boolean comes = by.bribed.contains(i);
                comes |= kind == 0;
                comes |= kind == 1 && !near.contains(minds);
                comes |= kind == 2 && (ahead == null || ahead.contains(minds));
                comes |= kind == 3 && (ahead == null || Collections.disjoint(near, ahead));
                if (comes) {
                    playing.add(i);
                }
            }
            all.add(playing);
        }
        return all;
    }

    private List<TreeSet<Integer>> evening(State by) {
        return evening(by, told.gaps, -1, 0, -1);
    }

    private static int sum(List<TreeSet<Integer>> evening) {
        return evening.stream().mapToInt(TreeSet::size).sum();
    }

    private boolean whole(List<TreeSet<Integer>> evening) {
        return evening.equals(told.bars);
    }

    private int price(Iterable<Integer> set) {
        int sum = 0;
        for (int i : set) {
            sum += told.instruments.get(i)[2];
        }
        return sum;
    }

    private List<List<Integer>> seatings() {
        List<List<Integer>> all = new ArrayList<>();
        sit(new ArrayList<>(), all);
        return all;
    }

    private void sit(List<Integer> begun, List<List<Integer>> all) {
        if (begun.size() == size()) {
            all.add(new ArrayList<>(begun));
            return;
        }
        for (int i = 0; i < size(); i++) {
            if (!begun.contains(i)) {
                begun.add(i);
                sit(begun, all);
                begun.remove(begun.size() - 1);
            }
        }
    }

    int write(int letter) {
        if (letter < 32 || letter > 126) {
            return BAD;
        }
        if (text.length() == 200) {
            return FULL;
        }
        text += (char) letter;
        return text.length();
    }

    int wipe() {
        int was = text.length();
        text = "";
        return was;
    }

    int fault() {
        return read(text).fault;
    }

    int lay() {
        Told t = read(text);
        int n = t.instruments.size();
        boolean fits = t.fault == NONE && n > 0;
        for (int[] one : t.instruments) {
            fits &= one[1] < n;
        }
        for (TreeSet<Integer> bar : t.bars) {
            fits &= bar.isEmpty() || bar.last() < n;
        }
        if (!fits) {
            return NO;
        }
        told = t;
        List<Integer> row = new ArrayList<>(t.seats);
        for (int i = 0; i < n; i++) {
            if (!row.contains(i)) {
                row.add(i);
            }
        }
        state = new State(row, new TreeSet<>());
        undone.clear();
        kept.clear();
        heardOnes.clear();
        return n;
    }

    int instrument(int i, int what) {
        if (no(i) || what < 0 || what > 5) {
            return BAD;
        }
        if (what < 3) {
            return told.instruments.get(i)[what];
        }
        if (what == 3) {
            return state.seats.indexOf(i);
        }
        return what == 4 ? (state.bribed.contains(i) ? 1 : 0) : bits(beside(i, state.seats, told.gaps));
    }

    int seat(int s) {
        return no(s) ? BAD : state.seats.get(s);
    }

    int asked(int bar) {
        return noBar(bar) ? BAD : bits(told.bars.get(bar));
    }

    int plays(int bar) {
        return noBar(bar) ? BAD : bits(evening(state).get(bar));
    }

    int missing(int bar) {
        return noBar(bar) ? BAD : asked(bar) - plays(bar);
    }

    int first() {
        for (int bar = 0; bar < told.bars.size(); bar++) {
            if (missing(bar) > 0) {
                return bar;
            }
        }
        return NONE;
    }

    int notes(int what) {
        if (what == 0) {
            return sum(evening(state));
        }
        if (what != 1) {
            return BAD;
        }
        int whole = 0;
        for (int bar = 0; bar < told.bars.size(); bar++) {
            whole += asked(bar) == plays(bar) ? 1 : 0;
        }
        return whole;
    }

    private void moved(State next) {
        undone.push(state);
        if (undone.size() > 8) {
            undone.removeLast();
        }
        state = next;
    }

    int change(int a, int b) {
        if (no(a) || no(b) || a == b) {
            return BAD;
        }
        moved(state.changed(a, b));
        return state.seats.get(a);
    }

    int bribe(int i) {
        if (no(i)) {
            return BAD;
        }
        moved(state.toggled(i));
        return price(state.bribed);
    }

    int undo() {
        if (undone.isEmpty()) {
            return NO;
        }
        state = undone.pop();
        return undone.size();
    }

    int best(int s) {
        if (s != -1 && no(s)) {
            return BAD;
        }
        List<Integer> first = null;
        int most = -1;
        for (List<Integer> row : seatings()) {
            int notes = sum(evening(new State(row, state.bribed)));
            if (notes > most) {
                most = notes;
                first = row;
            }
        }
        return s == -1 ? most : first.get(s);
    }

    /** Goes from seating to seating by single changes, the nearest first. */
    int changes() {
        Map<List<Integer>, Integer> far = new HashMap<>();
        Deque<State> next = new ArrayDeque<>();
        far.put(state.seats, 0);
        next.add(state);
        while (!next.isEmpty()) {
            State at = next.remove();
            int steps = far.get(at.seats);
            if (whole(evening(at))) {
                return steps;
            }
            for (int a = 0; a < size(); a++) {
                for (int b = a + 1; b < size(); b++) {
                    State to = at.changed(a, b);
                    if (far.putIfAbsent(to.seats, steps + 1) == null) {
                        next.add(to);
                    }
                }
            }
        }
        return NONE;
    }

    int help(int what) {
        if (what != 0 && what != 1) {
            return BAD;
        }
        int most = notes(0);
        int which = NONE;
        for (int b = size() - 1; b >= 0; b--) {
            for (int a = b - 1; a >= 0; a--) {
                int notes = sum(evening(state.changed(a, b)));
                if (notes > most || notes == most && which != NONE && 8 * a + b < which) {
                    most = notes;
                    which = 8 * a + b;
                }
            }
        }
        return which == NONE ? NONE : what == 0 ? which : most;
    }

    int bribes(int what) {
        if (what != 0 && what != 1) {
            return BAD;
        }
        int least = Integer.MAX_VALUE;
        int which = NONE;
        for (int set = (1 << size()) - 1; set >= 0; set--) {
            if (whole(evening(new State(state.seats, setOf(set)))) && price(setOf(set)) <= least) {
                least = price(setOf(set));
                which = set;
            }
        }
        return which == NONE ? NONE : what == 0 ? which : least;
    }

    int rests() {
        return told.bars.stream().mapToInt(TreeSet::size).sum() - notes(0);
    }

    int silence(int i) {
        return no(i) ? BAD : notes(0) - sum(evening(state, told.gaps, -1, 0, i)) + 100;
    }

    int alike() {
        List<TreeSet<Integer>> here = evening(state);
        int many = 0;
        for (List<Integer> row : seatings()) {
            many += evening(new State(row, state.bribed)).equals(here) ? 1 : 0;
        }
        return many;
    }

    private static int part(int above, int below, int part) {
        int shared = BigInteger.valueOf(above).gcd(BigInteger.valueOf(below)).intValue();
        return part == 0 ? above / shared : below / shared;
    }

    int odds(int part) {
        if (part != 0 && part != 1) {
            return BAD;
        }
        int many = 0;
        List<List<Integer>> all = seatings();
        for (List<Integer> row : all) {
            many += whole(evening(new State(row, state.bribed))) ? 1 : 0;
        }
        return part(many, all.size(), part);
    }

    int atLeast(int n, int part) {
        if (n < 0 || n > 56 || part != 0 && part != 1) {
            return BAD;
        }
        int many = 0;
        List<List<Integer>> all = seatings();
        for (List<Integer> row : all) {
            many += sum(evening(new State(row, state.bribed))) >= n ? 1 : 0;
        }
        return part(many, all.size(), part);
    }

    int heard(int i, int bar, int played) {
        if (no(i) || noBar(bar) || played != 0 && played != 1) {
            return BAD;
        }
        if (heardOnes.size() == 8) {
            return FULL;
        }
        heardOnes.add(new int[] {i, bar, played});
        return heardOnes.size();
    }

    int forget() {
        int were = heardOnes.size();
        heardOnes.clear();
        return were;
    }

    int kinds(int i) {
        if (no(i)) {
            return BAD;
        }
        State free = state.bribed.contains(i) ? state.toggled(i) : state;
        int fit = 0;
        for (int kind = 0; kind < 4; kind++) {
            List<TreeSet<Integer>> would = evening(free, told.gaps, i, kind, -1);
            boolean all = heardOnes.stream().allMatch(h -> h[0] != i || would.get(h[1]).contains(i) == (h[2] == 1));
            fit += all ? 1 << kind : 0;
        }
        return fit;
    }

    int hall(int k) {
        if (k != 9 && (k < 0 || k >= size() - 1)) {
            return BAD;
        }
        TreeSet<Integer> gaps = new TreeSet<>();
        if (k != 9) {
            gaps.add(k);
        }
        return sum(evening(state, gaps, -1, 0, -1));
    }

    int tour(int z, int n, int what) {
        if (z < 0 || z > 9999 || n < 1 || n > 20 || what != 0 && what != 1) {
            return BAD;
        }
        State at = state;
        int whole = 0;
        int most = 0;
        for (int evening = 0; evening < n; evening++) {
            BigInteger x = BigInteger.valueOf(7919).multiply(BigInteger.valueOf(z))
                .add(BigInteger.valueOf(6151L * evening)).add(BigInteger.ONE);
            int draw = x.multiply(x).mod(BigInteger.valueOf(65521)).divide(BigInteger.valueOf(4)).intValue();
            at = at.changed(draw % size(), (draw / 8) % size());
            List<TreeSet<Integer>> played = evening(at);
            whole += whole(played) ? 1 : 0;
            most = Math.max(most, sum(played));
        }
        return what == 0 ? whole : most;
    }

    int keep() {
        if (kept.size() == 2) {
            return FULL;
        }
        kept.push(state);
        return kept.size();
    }

    int back() {
        if (kept.isEmpty()) {
            return NO;
        }
        state = kept.pop();
        undone.clear();
        return kept.size();
    }

    int count(int what) {
        int[] many = {size(), told.bars.size(), told.gaps.size(), state.bribed.size(), heardOnes.size(), undone.size(),
            kept.size(), text.length()};
        return what < 0 || what > 7 ? BAD : many[what];
    }
}
