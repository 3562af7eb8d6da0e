import java.util.Arrays;

/**
 * A band whose instruments come in or not by their temper and by who sits beside them.
 * Every number that comes from outside is tested by the public method that takes it, and every
 * number of a text by the Reader and by Band.hasAllItNames; what is inside stays in these bounds.
 */
public final class SecondOboe {
    public static final int BAD = -1, NO = -2, FULL = -3, NONE = -4;

    private static final int MOST_LETTERS = 200;
    private static final int MOST_INSTRUMENTS = 7;
    private static final int MOST_BARS = 8;
    private static final int MOST_NOTES = MOST_INSTRUMENTS * MOST_BARS;
    private static final int MOST_UNDONE = 8;
    private static final int MOST_HEARD = 8;
    private static final int MOST_KEPT = 2;

    private static final int KINDS = 4;
    private static final int PLAIN = 0;
    private static final int SULKING = 1;
    private static final int LOYAL = 2;

    private static final int EVERYBODY = (1 << MOST_INSTRUMENTS) - 1;
    private static final int NO_GAP = 9;
    // Above every instrument's number, so that one number tells a change of seats from a bribe.
    private static final int SEATS_CHANGED = 64;

    private static final String AT_FIRST =
        "i0,0,2;i1,2,5;i2,0,3;i3,3,4;i1,0,6;b15,1;b5,1;b14,0;b11,1;s2;s0;g2;";

    private final Reader reader = new Reader();
    private final Band band = new Band();
    private final int[] sitting = new int[MOST_INSTRUMENTS];
    private int bribed;

    // What is played by the seats and bribes of now; settle() keeps it so.
    private final Evening now = new Evening();
    private final Survey survey = new Survey();

    private final int[] trial = new int[MOST_INSTRUMENTS];
    private final Evening other = new Evening();

    private final int[] latest = new int[MOST_UNDONE];
    private int undoable;

    private final int[] heardWho = new int[MOST_HEARD];
    private final int[] heardBar = new int[MOST_HEARD];
    private final int[] heardPlayed = new int[MOST_HEARD];
    private int heardCount;

    private final int[][] keptSitting = new int[MOST_KEPT][MOST_INSTRUMENTS];
    private final int[] keptBribed = new int[MOST_KEPT];
    private int keptCount;

    public SecondOboe() {
        for (int k = 0; k < AT_FIRST.length(); k++) {
            reader.append(AT_FIRST.charAt(k));
        }
        layText();
        reader.length = 0;
    }

    // ---- bands

    public int write(int letter) {
        if (letter < 32 || letter > 126) {
            return BAD;
        }
        return reader.append((char) letter) ? reader.length : FULL;
    }

    public int wipe() {
        int was = reader.length;
        reader.length = 0;
        return was;
    }

    public int fault() {
        return reader.readAll();
    }

    public int lay() {
        return layText() ? band.size : NO;
    }

    public int instrument(int i, int what) {
        if (!isInstrument(i)) {
            return BAD;
        }
        switch (what) {
            case 0: return band.kind[i];
            case 1: return band.minds[i];
            case 2: return band.price[i];
            case 3: return seatOf(i);
            case 4: return bribed >> i & 1;
            case 5: return now.beside[i];
            default: return BAD;
        }
    }

    public int seat(int s) {
        return isInstrument(s) ? sitting[s] : BAD;
    }

    public int asked(int bar) {
        return isBar(bar) ? band.asks[bar] : BAD;
    }

    // ---- evenings

    public int plays(int bar) {
        return isBar(bar) ? now.played[bar] : BAD;
    }

    public int missing(int bar) {
        return isBar(bar) ? missingIn(bar) : BAD;
    }

    public int first() {
        for (int bar = 0; bar < band.bars; bar++) {
            if (missingIn(bar) != 0) {
                return bar;
            }
        }
        return NONE;
    }

    public int notes(int what) {
        switch (what) {
            case 0: return now.sounded;
            case 1: return now.wholeBars;
            default: return BAD;
        }
    }

    // ---- changes

    public int change(int a, int b) {
        if (!isInstrument(a) || !isInstrument(b) || a == b) {
            return BAD;
        }
        remember(SEATS_CHANGED + 8 * a + b);
        swapSeats(sitting, a, b);
        settle();
        return sitting[a];
    }

    public int bribe(int i) {
        if (!isInstrument(i)) {
            return BAD;
        }
        remember(i);
        bribed ^= 1 << i;
        settle();
        return priceOf(bribed);
    }

    public int undo() {
        if (undoable < 1) {
            return NO;
        }
        undoable--;
        int what = latest[undoable];
        if (what >= SEATS_CHANGED) {
            swapSeats(sitting, what >> 3 & 7, what & 7);
        } else {
            bribed ^= 1 << what;
        }
        settle();
        return undoable;
    }

    // ---- what would be

    public int best(int s) {
        if (s == -1) {
            return surveyed().mostSounded;
        }
        return isInstrument(s) ? surveyed().bestSitting[s] : BAD;
    }

    public int changes() {
        return surveyed().fewestChanges;
    }

    public int help(int what) {
        if (what < 0 || what > 1) {
            return BAD;
        }
        int which = NONE;
        int most = now.sounded;
        System.arraycopy(sitting, 0, trial, 0, sitting.length);
        for (int a = 0; a < band.size; a++) {
            for (int b = a + 1; b < band.size; b++) {
                swapSeats(trial, a, b);
                other.playAll(band, trial, band.gaps, bribed, EVERYBODY);
                swapSeats(trial, a, b);
                if (other.sounded > most) {
                    most = other.sounded;
                    which = 8 * a + b;
                }
            }
        }
        return which == NONE || what == 0 ? which : most;
    }

    public int bribes(int what) {
        if (what < 0 || what > 1) {
            return BAD;
        }
        int cheapest = NONE;
        for (int set = 0; set < 1 << band.size; set++) {
            if (cheapest != NONE && priceOf(set) >= priceOf(cheapest)) {
                continue;
            }
            other.playAll(band, sitting, band.gaps, set, EVERYBODY);
            if (other.wholeBars == band.bars) {
                cheapest = set;
            }
        }
        return cheapest == NONE || what == 0 ? cheapest : priceOf(cheapest);
    }

    public int rests() {
        int sum = 0;
        for (int bar = 0; bar < band.bars; bar++) {
            sum += Integer.bitCount(missingIn(bar));
        }
        return sum;
    }

    public int silence(int i) {
        if (!isInstrument(i)) {
            return BAD;
        }
        other.playAll(band, sitting, band.gaps, bribed, EVERYBODY & ~(1 << i));
        return now.sounded - other.sounded + 100;
    }

    // ---- how many, how likely

    public int alike() {
        return surveyed().alikeSeatings;
    }

    public int odds(int part) {
        if (part < 0 || part > 1) {
            return BAD;
        }
        Survey all = surveyed();
        return inLowestTerms(all.wholeSeatings, all.seatings, part);
    }

    public int atLeast(int n, int part) {
        if (n < 0 || n > MOST_NOTES || part < 0 || part > 1) {
            return BAD;
        }
        Survey all = surveyed();
        int above = 0;
        for (int k = n; k <= MOST_NOTES; k++) {
            above += all.seatingsBySounded[k];
        }
        return inLowestTerms(above, all.seatings, part);
    }

    // ---- what was heard

    public int heard(int i, int bar, int played) {
        if (!isInstrument(i) || !isBar(bar) || played < 0 || played > 1) {
            return BAD;
        }
        if (heardCount >= MOST_HEARD) {
            return FULL;
        }
        heardWho[heardCount] = i;
        heardBar[heardCount] = bar;
        heardPlayed[heardCount] = played;
        heardCount++;
        return heardCount;
    }

    public int forget() {
        int were = heardCount;
        heardCount = 0;
        return were;
    }

    public int kinds(int i) {
        if (!isInstrument(i)) {
            return BAD;
        }
        int itsKind = band.kind[i];
        int fitting = 0;
        for (int kind = 0; kind < KINDS; kind++) {
            band.kind[i] = kind;
            other.playAll(band, sitting, band.gaps, bribed & ~(1 << i), EVERYBODY);
            if (agreesWithHeard(i, other)) {
                fitting |= 1 << kind;
            }
        }
        band.kind[i] = itsKind;
        return fitting;
    }

    public int hall(int k) {
        if (k != NO_GAP && (k < 0 || k > band.size - 2)) {
            return BAD;
        }
        other.playAll(band, sitting, k == NO_GAP ? 0 : 1 << k, bribed, EVERYBODY);
        return other.sounded;
    }

    public int tour(int z, int n, int what) {
        if (z < 0 || z > 9999 || n < 1 || n > 20 || what < 0 || what > 1) {
            return BAD;
        }
        int seats = Math.max(1, band.size);
        int whole = 0;
        int most = 0;
        System.arraycopy(sitting, 0, trial, 0, sitting.length);
        for (int evening = 0; evening < n; evening++) {
            int draw = draw(z, evening);
            swapSeats(trial, draw % seats, draw / 8 % seats);
            other.playAll(band, trial, band.gaps, bribed, EVERYBODY);
            whole += other.wholeBars == band.bars ? 1 : 0;
            most = Math.max(most, other.sounded);
        }
        return what == 0 ? whole : most;
    }

    // ---- kept

    public int keep() {
        if (keptCount >= MOST_KEPT) {
            return FULL;
        }
        System.arraycopy(sitting, 0, keptSitting[keptCount], 0, sitting.length);
        keptBribed[keptCount] = bribed;
        keptCount++;
        return keptCount;
    }

    public int back() {
        if (keptCount < 1) {
            return NO;
        }
        keptCount--;
        System.arraycopy(keptSitting[keptCount], 0, sitting, 0, sitting.length);
        bribed = keptBribed[keptCount];
        undoable = 0;
        settle();
        return keptCount;
    }

    public int count(int what) {
        switch (what) {
            case 0: return band.size;
            case 1: return band.bars;
            case 2: return Integer.bitCount(band.gaps);
            case 3: return Integer.bitCount(bribed);
            case 4: return heardCount;
            case 5: return undoable;
            case 6: return keptCount;
            case 7: return reader.length;
            default: return BAD;
        }
    }

    // ---- what the calls share

    private boolean layText() {
        if (reader.readAll() != NONE || !reader.draft.hasAllItNames()) {
            return false;
        }
        band.copyFrom(reader.draft);
        band.seatAll(sitting);
        bribed = 0;
        heardCount = 0;
        undoable = 0;
        keptCount = 0;
        settle();
        return true;
    }

    /** To be called whenever the band, its seats or its bribes have become others. */
    private void settle() {
        now.playAll(band, sitting, band.gaps, bribed, EVERYBODY);
        survey.fresh = false;
    }

    private Survey surveyed() {
        if (!survey.fresh) {
            survey.lookAtAll(band, sitting, bribed, now);
        }
        return survey;
    }

    private void remember(int what) {
        if (undoable >= MOST_UNDONE) {
            System.arraycopy(latest, 1, latest, 0, MOST_UNDONE - 1);
            undoable = MOST_UNDONE - 1;
        }
        latest[undoable] = what;
        undoable++;
    }

    /** There are as many seats as instruments, so this tells a seat as well. */
    private boolean isInstrument(int i) {
        return i >= 0 && i < band.size;
    }

    private boolean isBar(int bar) {
        return bar >= 0 && bar < band.bars;
    }

    private int seatOf(int i) {
        int s = 0;
        while (s < band.size - 1 && sitting[s] != i) {
            s++;
        }
        return s;
    }

    private int missingIn(int bar) {
        return band.asks[bar] & ~now.played[bar];
    }

    private int priceOf(int set) {
        int sum = 0;
        for (int i = 0; i < band.size; i++) {
            sum += (set >> i & 1) * band.price[i];
        }
        return sum;
    }

    private boolean agreesWithHeard(int i, Evening evening) {
        for (int k = 0; k < heardCount; k++) {
            if (heardWho[k] == i && (evening.played[heardBar[k]] >> i & 1) != heardPlayed[k]) {
                return false;
            }
        }
        return true;
    }

    private static int draw(int z, int evening) {
        long x = 7919L * z + 6151L * evening + 1;
        return (int) (x * x % 65521 / 4);
    }

    private static void swapSeats(int[] row, int a, int b) {
        int moved = row[a];
        row[a] = row[b];
        row[b] = moved;
    }

    private static int inLowestTerms(int above, int below, int part) {
        int shared = below;
        int rest = above;
        // Each two steps halve the rest, so 64 are more than an int can need.
        for (int k = 0; k < 64 && rest > 0; k++) {
            int next = shared % rest;
            shared = rest;
            rest = next;
        }
        return shared < 1 ? 0 : (part == 0 ? above : below) / shared;
    }

    /** A band as a text tells it: its instruments, its score, its seats and its gaps. */
    private static final class Band {
        final int[] kind = new int[MOST_INSTRUMENTS];
        final int[] minds = new int[MOST_INSTRUMENTS];
        final int[] price = new int[MOST_INSTRUMENTS];
        int size;

        final int[] asks = new int[MOST_BARS];
        int bars;

        final int[] toldToSit = new int[MOST_INSTRUMENTS];
        int toldSeats;
        int gaps;

        void clear() {
            size = 0;
            bars = 0;
            toldSeats = 0;
            gaps = 0;
        }

        void copyFrom(Band from) {
            System.arraycopy(from.kind, 0, kind, 0, kind.length);
            System.arraycopy(from.minds, 0, minds, 0, minds.length);
            System.arraycopy(from.price, 0, price, 0, price.length);
            System.arraycopy(from.asks, 0, asks, 0, asks.length);
            System.arraycopy(from.toldToSit, 0, toldToSit, 0, toldToSit.length);
            size = from.size;
            bars = from.bars;
            toldSeats = from.toldSeats;
            gaps = from.gaps;
        }

        boolean addInstrument(int itsKind, int itMinds, int itsPrice) {
            if (size >= MOST_INSTRUMENTS || itsKind >= KINDS || itMinds >= MOST_INSTRUMENTS || itsPrice > 30) {
                return false;
            }
            kind[size] = itsKind;
            minds[size] = itMinds;
            price[size] = itsPrice;
            size++;
            return true;
        }

        boolean addBar(int low, int high) {
            if (bars >= MOST_BARS || low > 15 || high > 7) {
                return false;
            }
            asks[bars] = low | high << 4;
            bars++;
            return true;
        }

        boolean addSeat(int i) {
            if (i >= size) {
                return false;
            }
            if ((toldSet() >> i & 1) == 0 && toldSeats < MOST_INSTRUMENTS) {
                toldToSit[toldSeats] = i;
                toldSeats++;
            }
            return true;
        }

        boolean addGap(int k) {
            if (k > MOST_INSTRUMENTS - 2) {
                return false;
            }
            gaps |= 1 << k;
            return true;
        }

        /** An instrument may be minded, and asked, ahead of being told: only the whole text shows it. */
        boolean hasAllItNames() {
            for (int i = 0; i < size; i++) {
                if (minds[i] >= size) {
                    return false;
                }
            }
            for (int bar = 0; bar < bars; bar++) {
                if (asks[bar] >> size != 0) {
                    return false;
                }
            }
            return size > 0;
        }

        void seatAll(int[] row) {
            int told = toldSet();
            int s = toldSeats;
            System.arraycopy(toldToSit, 0, row, 0, row.length);
            for (int i = 0; i < size && s < row.length; i++) {
                if ((told >> i & 1) == 0) {
                    row[s] = i;
                    s++;
                }
            }
        }

        private int toldSet() {
            int set = 0;
            for (int s = 0; s < toldSeats; s++) {
                set |= 1 << toldToSit[s];
            }
            return set;
        }
    }

    /** Holds a text and reads it into a draft of a band. */
    private static final class Reader {
        final Band draft = new Band();
        int length;
        private final char[] letters = new char[MOST_LETTERS];
        private final int[] numbers = new int[3];

        boolean append(char letter) {
            if (length >= MOST_LETTERS) {
                return false;
            }
            letters[length] = letter;
            length++;
            return true;
        }

        /** The place of the first item that is not so, or NONE: then the draft is what the text tells. */
        int readAll() {
            draft.clear();
            int start = 0;
            while (start < length) {
                int end = endOfItem(start);
                if (end <= start || !takeItem(letters[start])) {
                    return start;
                }
                start = end;
            }
            return NONE;
        }

        /** The place behind the item that begins at start, its numbers read; start itself if it has no right form. */
        private int endOfItem(int start) {
            int many = numbersBehind(letters[start]);
            int at = start + 1;
            for (int k = 0; k < many; k++) {
                int figures = figuresAt(at);
                char close = k + 1 < many ? ',' : ';';
                if (figures == 0 || letterAt(at + figures) != close) {
                    return start;
                }
                numbers[k] = numberAt(at, figures);
                at += figures + 1;
            }
            return many == 0 ? start : at;
        }

        private boolean takeItem(int letter) {
            switch (letter) {
                case 'i': return draft.addInstrument(numbers[0], numbers[1], numbers[2]);
                case 'b': return draft.addBar(numbers[0], numbers[1]);
                case 's': return draft.addSeat(numbers[0]);
                case 'g': return draft.addGap(numbers[0]);
                default: return false;
            }
        }

        private static int numbersBehind(int letter) {
            switch (letter) {
                case 'i': return 3;
                case 'b': return 2;
                case 's': return 1;
                case 'g': return 1;
                default: return 0;
            }
        }

        private int figuresAt(int at) {
            if (!isFigure(letterAt(at))) {
                return 0;
            }
            return isFigure(letterAt(at + 1)) ? 2 : 1;
        }

        private int numberAt(int at, int figures) {
            int number = letterAt(at) - '0';
            return figures == 1 ? number : 10 * number + letterAt(at + 1) - '0';
        }

        private static boolean isFigure(char letter) {
            return letter >= '0' && letter <= '9';
        }

        private char letterAt(int at) {
            return at >= 0 && at < length ? letters[at] : 0;
        }
    }

    /** What is played, bar by bar, by given seats, gaps and bribes. */
    private static final class Evening {
        final int[] beside = new int[MOST_INSTRUMENTS];
        final int[] played = new int[MOST_BARS];
        int sounded;
        int wholeBars;

        void playAll(Band band, int[] sitting, int gaps, int bribed, int mayBeAsked) {
            lookAround(band.size, sitting, gaps);
            int firm = comeAnyway(band, bribed);
            int ahead = 0;
            sounded = 0;
            wholeBars = 0;
            for (int bar = 0; bar < band.bars; bar++) {
                int asked = band.asks[bar] & mayBeAsked;
                ahead = asked & (firm | comeAfter(band, bar, ahead));
                played[bar] = ahead;
                sounded += Integer.bitCount(ahead);
                wholeBars += ahead == asked ? 1 : 0;
            }
        }

        private void lookAround(int size, int[] sitting, int gaps) {
            for (int s = 0; s < size; s++) {
                boolean left = s > 0 && (gaps >> s - 1 & 1) == 0;
                boolean right = s + 1 < size && (gaps >> s & 1) == 0;
                beside[sitting[s]] = (left ? 1 << sitting[s - 1] : 0) | (right ? 1 << sitting[s + 1] : 0);
            }
        }

        private int comeAnyway(Band band, int bribed) {
            int come = bribed;
            for (int i = 0; i < band.size; i++) {
                int kind = band.kind[i];
                if (kind == PLAIN || kind == SULKING && (beside[i] >> band.minds[i] & 1) == 0) {
                    come |= 1 << i;
                }
            }
            return come;
        }

        /** The LOYAL and the SHY that come in by who played in the bar ahead. */
        private int comeAfter(Band band, int bar, int ahead) {
            int come = 0;
            for (int i = 0; i < band.size; i++) {
                int kind = band.kind[i];
                if (kind <= SULKING) {
                    continue;
                }
                boolean comes = kind == LOYAL ? (ahead >> band.minds[i] & 1) == 1 : (ahead & beside[i]) == 0;
                if (comes || bar == 0) {
                    come |= 1 << i;
                }
            }
            return come;
        }
    }

    /** What all the seatings there are would bring, counted in one pass and kept until settle() calls for another. */
    private static final class Survey {
        boolean fresh;
        int seatings;
        int wholeSeatings;
        int alikeSeatings;
        int fewestChanges;
        int mostSounded;
        final int[] bestSitting = new int[MOST_INSTRUMENTS];
        final int[] seatingsBySounded = new int[MOST_NOTES + 1];

        private final int[] trial = new int[MOST_INSTRUMENTS];
        private final int[] seatNow = new int[MOST_INSTRUMENTS];
        private final Evening there = new Evening();

        void lookAtAll(Band band, int[] sitting, int bribed, Evening now) {
            begin(band.size, sitting);
            for (int k = 0; k < seatings; k++) {
                there.playAll(band, trial, band.gaps, bribed, EVERYBODY);
                seatingsBySounded[there.sounded]++;
                // The seatings come in order, so that only more NOTES make a later one the best.
                if (there.sounded > mostSounded) {
                    mostSounded = there.sounded;
                    System.arraycopy(trial, 0, bestSitting, 0, trial.length);
                }
                if (there.wholeBars == band.bars) {
                    wholeSeatings++;
                    int steps = changesToTrial(band.size);
                    fewestChanges = fewestChanges == NONE ? steps : Math.min(fewestChanges, steps);
                }
                alikeSeatings += soundsAlike(band.bars, now) ? 1 : 0;
                goToNextSeating(band.size);
            }
            fresh = true;
        }

        private void begin(int size, int[] sitting) {
            seatings = 1;
            for (int s = 0; s < size; s++) {
                seatings *= s + 1;
                trial[s] = s;
                seatNow[sitting[s]] = s;
            }
            wholeSeatings = 0;
            alikeSeatings = 0;
            fewestChanges = NONE;
            mostSounded = -1;
            Arrays.fill(seatingsBySounded, 0);
        }

        private boolean soundsAlike(int bars, Evening now) {
            for (int bar = 0; bar < bars; bar++) {
                if (there.played[bar] != now.played[bar]) {
                    return false;
                }
            }
            return true;
        }

        /** A ring of seats whose sitters move on within it takes one change fewer than it has seats. */
        private int changesToTrial(int size) {
            int seen = 0;
            int rings = 0;
            for (int s = 0; s < size; s++) {
                rings += (seen >> s & 1) == 0 ? 1 : 0;
                int at = s;
                for (int k = 0; k < size && (seen >> at & 1) == 0; k++) {
                    seen |= 1 << at;
                    at = seatNow[trial[at]];
                }
            }
            return size - rings;
        }

        /** By who sits on seat 0, the lowest first, then on 1, ..; the last seating stays as it is. */
        private void goToNextSeating(int size) {
            int rise = size - 2;
            while (rise >= 0 && trial[rise] > trial[rise + 1]) {
                rise--;
            }
            if (rise < 0) {
                return;
            }
            int above = size - 1;
            while (above > rise + 1 && trial[above] < trial[rise]) {
                above--;
            }
            swapSeats(trial, rise, above);
            int low = rise + 1;
            for (int high = size - 1; high > low; high--) {
                swapSeats(trial, low, high);
                low++;
            }
        }
    }
}
