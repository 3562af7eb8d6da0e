/** What the tests share: an answer against the one that is due, bands from texts, the last word. */
final class Check {
    private static int asked = 0;
    private static int wrong = 0;

    private Check() {
    }

    static void due(String call, long want, long got) {
        asked++;
        if (got != want) {
            wrong++;
            if (wrong <= 40) {
                System.out.println(call + " answered " + got + ", due is " + want);
            }
        }
    }

    /** An object with the text written to it, behind what it held. */
    static SecondOboe written(String text) {
        SecondOboe x = new SecondOboe();
        write(x, text);
        return x;
    }

    static void write(SecondOboe x, String text) {
        for (int k = 0; k < text.length(); k++) {
            int before = x.count(7);
            due("write in " + text, before + 1, x.write(text.charAt(k)));
        }
    }

    static SecondOboe laid(String text) {
        SecondOboe x = written(text);
        int told = 0;
        for (int k = 0; k < text.length(); k++) {
            told += text.charAt(k) == 'i' ? 1 : 0;
        }
        due("lay of " + text, told, x.lay());
        return x;
    }

    static void sits(String what, SecondOboe x, int... want) {
        for (int s = 0; s < want.length; s++) {
            due(what + ": seat(" + s + ")", want[s], x.seat(s));
        }
    }

    static void finish() {
        System.out.println(asked + " answers, " + wrong + " wrong");
        if (wrong != 0) {
            System.exit(1);
        }
    }
}
