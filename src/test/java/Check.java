/** What the tests share: an answer against the one that is due, bands from texts, the last word. */
final class Check {
    private static int asked = 0;
    private static int wrong = 0;
    private static int edges = 0;
    private static int askedAtEdge = 0;
    private static String edge = "";

    private Check() {
    }

    static void due(String call, long want, long got) {
        asked++;
        if (got != want) {
            wrong++;
            if (wrong <= 40) {
                System.out.println(edge + call + " answered " + got + ", due is " + want);
            }
        }
    }

    /** From here on it is the boundary told by these words of the document that is tested. */
    static void edge(String words) {
        endEdge();
        edges++;
        askedAtEdge = asked;
        edge = "[" + words + "] ";
    }

    private static void endEdge() {
        if (edges > 0 && asked == askedAtEdge) {
            wrong++;
            System.out.println(edge + "is not tested");
        }
    }

    /** An object with the text written to it, behind what it held. */
    static SecondOboe written(String text) {
        SecondOboe x = new SecondOboe();
        write(x, text);
        return x;
    }

    static void write(SecondOboe x, String text) {
        int before = x.count(7);
        for (int k = 0; k < text.length(); k++) {
            due("write in " + text, before + k + 1, x.write(text.charAt(k)));
        }
    }

    static SecondOboe laid(String text) {
        SecondOboe x = written(text);
        int told = 0;
        for (int k = 0; k < text.length(); k++) {
            told += text.charAt(k) == 'i' ? 1 : 0;
        }
        due("lay of " + text, told, x.lay());
        return x;
    }

    static void sits(String what, SecondOboe x, int... want) {
        for (int s = 0; s < want.length; s++) {
            due(what + ": seat(" + s + ")", want[s], x.seat(s));
        }
    }

    static void finish() {
        endEdge();
        System.out.println((edges > 0 ? edges + " boundaries, " : "") + asked + " answers, " + wrong + " wrong");
        if (wrong != 0) {
            System.exit(1);
        }
    }
}
