import java.nio.charset.StandardCharsets;

/** What the tests have in common: telling answers that are not as due, and small helpers over the face. */
final class Checks {
    private static int asked = 0;
    private static int wrong = 0;
    private static String sentence = "";

    private Checks() {
    }

    static void due(String what, long got, long want) {
        asked++;
        if (got == want) return;
        wrong++;
        if (wrong <= 50) System.out.println(sentence + what + " answered " + got + ", due is " + want);
    }

    /** The document's sentence that the answers from here on are about; told with those that are wrong. */
    static void sentence(int promise, String words) {
        sentence = "promise " + promise + ", \"" + words + "\": ";
    }

    static void holds(String what, boolean so) {
        due(what, so ? 1 : 0, 1);
    }

    static void end() {
        System.out.println(asked + " answers looked at, " + wrong + " wrong");
        if (wrong != 0 || asked == 0) System.exit(1);
    }

    /** Feeds a text, eight bytes at most a call. */
    static int feed(LightPlate x, String text) {
        byte[] bytes = text.getBytes(StandardCharsets.ISO_8859_1);
        int answer = 0;
        for (int from = 0; from < bytes.length; from += 8) {
            int n = Math.min(8, bytes.length - from);
            long w = 0;
            for (int i = 0; i < n; i++) w = w << 8 | bytes[from + i] & 255;
            answer = x.feed(w, n);
        }
        return answer;
    }

    static int program(LightPlate x, String text) {
        feed(x, text);
        return x.program();
    }

    /** The WORKS as text: "lane:turn lane:turn". */
    static String works(LightPlate x) {
        StringBuilder text = new StringBuilder();
        for (int i = 0; i < x.count(2); i++) {
            if (i > 0) text.append(' ');
            text.append(x.work(i, 0)).append(':').append(x.work(i, 1));
        }
        return text.toString();
    }

    /** The SETTINGS other than 0 as text: "layer,lane=turn ..". */
    static String settings(LightPlate x) {
        StringBuilder text = new StringBuilder();
        for (int layer = 0; layer < 12; layer++) {
            for (int i = layer % 2; i < x.count(0) - 1; i += 2) {
                int k = x.cell(layer, i, 0);
                if (k != 0) text.append(layer).append(',').append(i).append('=').append(k).append(' ');
            }
        }
        return text.toString().trim();
    }

    static void same(String what, String got, String want) {
        holds(what + " \"" + got + "\", due is \"" + want + "\"", got.equals(want));
    }
}
