import java.util.Random;

/** Random runs of all calls, each answer held against PlainOboe's; seeded, so that each run is the same. */
public final class ReferenceTest {
    private static final int[] WILD = {-1, -2, 7, 8, 9, 10, 20, 21, 31, 32, 56, 57, 63, 64, 100, 9999, 10000,
        Integer.MIN_VALUE, Integer.MAX_VALUE, Integer.MIN_VALUE + 1, Integer.MAX_VALUE - 1, 1 << 16};
    private static final int CALLS = 32;
    // What an object answers behind its 512th call is free; a band takes some 210 of them.
    private static final int ENOUGH = 512 - 212;

    private final Random random;
    private final SecondOboe x = new SecondOboe();
    private final PlainOboe y = new PlainOboe();
    private final StringBuilder run = new StringBuilder();
    private int calls;

    private ReferenceTest(long seed) {
        random = new Random(seed);
    }

    public static void main(String[] args) {
        int runs = args.length > 0 ? Integer.parseInt(args[0]) : 700;
        long seed = args.length > 1 ? Long.parseLong(args[1]) : 1;
        for (int k = 0; k < runs; k++) {
            new ReferenceTest(seed + k).play();
        }
        Check.finish();
    }

    private void play() {
        if (random.nextInt(6) != 0) {
            band();
        }
        for (int k = 0; k < 60 && calls <= ENOUGH; k++) {
            if (random.nextInt(25) == 0) {
                band();
            }
            call(random.nextInt(CALLS));
        }
    }

    private void due(String call, int want, int got) {
        run.append(call).append(' ');
        calls++;
        Check.due(want == got ? "" : run.toString(), want, got);
    }

    private int at(int below) {
        return random.nextInt(12) == 0 ? WILD[random.nextInt(WILD.length)] : random.nextInt(below);
    }

    /** A number to write: mostly below, now and then one more, or written with two figures. */
    private String number(int below) {
        int n = random.nextInt(40) == 0 ? below : random.nextInt(below);
        return random.nextInt(20) == 0 && n < 10 ? "0" + n : "" + n;
    }

    private void band() {
        // Bands of seven are dear to hold against the slow one.
        int size = random.nextInt(10) == 0 ? 7 : 1 + random.nextInt(6);
        StringBuilder text = new StringBuilder();
        int kinds = random.nextInt(3);
        for (int i = 0; i < size; i++) {
            String kind = kinds == 0 ? number(4) : "" + (1 + random.nextInt(3));
            text.append('i').append(kind).append(',').append(number(size)).append(',')
                .append(random.nextBoolean() ? number(31) : number(3)).append(';');
        }
        int bars = random.nextInt(9);
        int everybody = (1 << size) - 1;
        for (int bar = 0; bar < bars; bar++) {
            int ask = random.nextInt(everybody + 1) | (random.nextBoolean() ? random.nextInt(everybody + 1) : 0);
            text.append('b').append(ask & 15).append(',').append(ask >> 4).append(';');
        }
        for (int k = random.nextInt(size + 2); k > 0; k--) {
            text.append('s').append(number(size)).append(';');
        }
        for (int k = random.nextInt(4); k > 0; k--) {
            text.append('g').append(number(6)).append(';');
        }
        if (random.nextInt(6) == 0) {
            spoil(text);
        }
        due("wipe", y.wipe(), x.wipe());
        for (int k = 0; k < text.length() && k < 205; k++) {
            due("" + text.charAt(k), y.write(text.charAt(k)), x.write(text.charAt(k)));
        }
        due("fault", y.fault(), x.fault());
        due("lay", y.lay(), x.lay());
    }

    private void spoil(StringBuilder text) {
        int at = random.nextInt(text.length());
        String letters = "ibsg0123456789,;;,x I";
        char letter = letters.charAt(random.nextInt(letters.length()));
        switch (random.nextInt(3)) {
            case 0: text.setCharAt(at, letter); break;
            case 1: text.insert(at, letter); break;
            default: text.deleteCharAt(at); break;
        }
    }

    private void call(int which) {
        int a = at(7);
        int b = at(7);
        int what = at(2);
        switch (which) {
            case 0: due("write " + a, y.write(a), x.write(a)); break;
            case 1: due("fault", y.fault(), x.fault()); break;
            case 2: if (random.nextInt(4) == 0) { due("lay", y.lay(), x.lay()); } break;
            case 3: due("instrument " + a + " " + b, y.instrument(a, b), x.instrument(a, b)); break;
            case 4: due("seat " + a, y.seat(a), x.seat(a)); break;
            case 5: due("asked " + a, y.asked(a), x.asked(a)); break;
            case 6: due("plays " + a, y.plays(a), x.plays(a)); break;
            case 7: due("missing " + a, y.missing(a), x.missing(a)); break;
            case 8: due("first", y.first(), x.first()); break;
            case 9: due("notes " + what, y.notes(what), x.notes(what)); break;
            case 10: case 11: due("change " + a + " " + b, y.change(a, b), x.change(a, b)); break;
            case 12: case 13: due("bribe " + a, y.bribe(a), x.bribe(a)); break;
            case 14: due("undo", y.undo(), x.undo()); break;
            case 15: due("best " + (a - 1), y.best(a - 1), x.best(a - 1)); break;
            case 16: due("changes", y.changes(), x.changes()); break;
            case 17: due("help " + what, y.help(what), x.help(what)); break;
            case 18: due("bribes " + what, y.bribes(what), x.bribes(what)); break;
            case 19: due("rests", y.rests(), x.rests()); break;
            case 20: due("silence " + a, y.silence(a), x.silence(a)); break;
            default: callMore(which, a, b, what); break;
        }
    }

    private void callMore(int which, int a, int b, int what) {
        int n = at(57);
        int z = at(10000);
        int k = random.nextInt(5) == 0 ? 9 : a;
        int evenings = at(21);
        switch (which) {
            case 21: due("alike", y.alike(), x.alike()); break;
            case 22: due("odds " + what, y.odds(what), x.odds(what)); break;
            case 23: due("atLeast " + n + " " + what, y.atLeast(n, what), x.atLeast(n, what)); break;
            case 24: case 25:
                due("heard " + a + " " + b + " " + what, y.heard(a, b, what), x.heard(a, b, what));
                due("kinds " + a, y.kinds(a), x.kinds(a));
                break;
            case 26: due("forget", y.forget(), x.forget()); break;
            case 27: due("hall " + k, y.hall(k), x.hall(k)); break;
            case 28: due("tour " + z + " " + evenings + " " + what, y.tour(z, evenings, what), x.tour(z, evenings, what)); break;
            case 29: due("keep", y.keep(), x.keep()); break;
            case 30: due("back", y.back(), x.back()); break;
            default: due("count " + b, y.count(b), x.count(b)); break;
        }
    }
}
