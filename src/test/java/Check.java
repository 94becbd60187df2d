/** What the tests share: it counts the calls, prints those that answer wrongly, and puts texts on a TAPE. */
final class Check {
    private static int right = 0;
    private static int wrong = 0;
    private static int sentences = 0;
    private static String sentence = "";

    private Check() {
    }

    static void due(String call, long got, long want) {
        if (got == want) {
            right++;
            return;
        }
        wrong++;
        if (wrong <= 50) {
            System.out.println(sentence + call + " answered " + got + ", due is " + want);
        }
    }

    /** The calls that hold the class to one sentence of the document; wrong answers among them bear its name. */
    static void holds(String name, Runnable calls) {
        int before = right + wrong;
        sentence = name + " -- ";
        try {
            calls.run();
        } catch (RuntimeException thrown) {
            due(thrown.toString(), 1, 0);
        }
        if (right + wrong == before) {
            due("no call", 0, 1);
        }
        sentence = "";
        sentences++;
    }

    static void due(String call, boolean got, boolean want) {
        due(call, got ? 1 : 0, want ? 1 : 0);
    }

    static void close(String test) {
        String of = sentences > 0 ? " of " + sentences + " sentences" : "";
        System.out.println(test + ": " + right + " answers" + of + " right, " + wrong + " wrong");
        if (wrong > 0 || right == 0) {
            System.exit(1);
        }
    }

    /** The number made of four bytes of a text, the first the highest; zeros behind its end. */
    static int word(String text, int from) {
        int number = 0;
        for (int place = from; place < from + 4; place++) {
            number = number << 8 | (place < text.length() ? text.charAt(place) & 255 : 0);
        }
        return number;
    }

    /** Puts the text, and nothing else, on the TAPE. */
    static void lay(GrassCells x, String text) {
        x.end(0);
        for (int from = 0; from < text.length(); from += 20) {
            x.feed(word(text, from), word(text, from + 4), word(text, from + 8), word(text, from + 12),
                    word(text, from + 16));
        }
        if (x.end(text.length()) != text.length()) {
            throw new IllegalStateException("no room for " + text);
        }
    }

    static int tell(GrassCells x, String text) {
        lay(x, text);
        return x.cell();
    }

    static GrassCells told(String text) {
        GrassCells x = new GrassCells();
        if (tell(x, text) < 0) {
            throw new IllegalStateException("no CELL: " + text);
        }
        return x;
    }

    /** A SET as bits from its digits. */
    static int set(String digits) {
        int set = 0;
        for (int place = 0; place < digits.length(); place++) {
            set |= 1 << (digits.charAt(place) - '1');
        }
        return set;
    }

    /** F as a text that tells it. */
    static String perm(GrassCells x) {
        StringBuilder text = new StringBuilder("perm");
        for (int i = 1; i <= x.count(0); i++) {
            text.append(' ').append(x.f(i));
        }
        return text.toString();
    }
}
