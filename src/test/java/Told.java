/** What the tests share: texts put on the tape, texts read back, and the count of wrong answers. */
final class Told {
    private int wrong = 0;
    private int asked = 0;

    static SignSquares of(String text) {
        SignSquares x = new SignSquares();
        tell(x, text);
        return x;
    }

    static int tell(SignSquares x, String text) {
        tape(x, text);
        return x.text();
    }

    static void tape(SignSquares x, String text) {
        for (int from = 0; from < text.length(); from += 20) {
            x.feed(four(text, from), four(text, from + 4), four(text, from + 8), four(text, from + 12),
                    four(text, from + 16));
        }
        x.back((20 - text.length() % 20) % 20);
    }

    private static int four(String text, int from) {
        int bytes = 0;
        for (int i = from; i < from + 4; i++) {
            bytes = bytes << 8 | (i < text.length() ? text.charAt(i) & 255 : ' ');
        }
        return bytes;
    }

    static String spelled(SignSquares x, int line, int square) {
        StringBuilder text = new StringBuilder();
        int n = x.spell(line, square, SignSquares.NONE);
        for (int i = 0; i < n; i++) {
            text.append((char) x.spell(line, square, i));
        }
        return n < 0 ? "no text" : text.toString();
    }

    static String bestText(SignSquares x, int line, int square) {
        StringBuilder text = new StringBuilder();
        int n = x.bestText(line, square, SignSquares.NONE);
        for (int i = 0; i < n; i++) {
            text.append((char) x.bestText(line, square, i));
        }
        return n < 0 ? "no text" : text.toString();
    }

    void due(String what, long got, long want) {
        asked++;
        if (got != want) {
            wrong++;
            if (wrong <= 40) {
                System.out.println(what + " answered " + got + ", due is " + want);
            }
        }
    }

    void due(String what, boolean got, boolean want) {
        due(what, got ? 1 : 0, want ? 1 : 0);
    }

    void due(String what, String got, String want) {
        if (!got.equals(want)) {
            System.out.println(what + ": '" + got + "', due is '" + want + "'");
        }
        due(what, got.equals(want), true);
    }

    boolean anyWrong() {
        return wrong > 0;
    }

    void end() {
        System.out.println(asked + " answers, " + wrong + " not as due");
        if (wrong > 0 || asked == 0) {
            System.exit(1);
        }
    }
}
