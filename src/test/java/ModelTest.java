/** Long runs of calls, the class held against the model: the same calls each time, from a number's own sequence. */
public final class ModelTest {
    private static long seed = 20261117;
    private static final Told TOLD = new Told();
    private static SignSquares x;
    private static Model m;
    private static String run = "";
    private static int calls;

    private static int upTo(int n) {
        seed = seed * 6364136223846793005L + 1442695040888963407L;
        return (int) ((seed >>> 33) % n);
    }

    /** Mostly 0 .. n - 1, now and then something wrong. */
    private static int near(int n) {
        int[] odd = {-1, -2, n, n + 1, 1000, Integer.MAX_VALUE, Integer.MIN_VALUE};
        return upTo(25) == 0 ? odd[upTo(odd.length)] : upTo(Math.max(1, n));
    }

    public static void main(String[] args) {
        for (int n = 0; n < 700 && !TOLD.anyWrong(); n++) {
            run = "run " + n;
            x = new SignSquares();
            m = new Model();
            calls = 0;
            String text = goodText();
            tell(text);
            // beyond 512 calls all is free: the last ones are kept for spelling, and for one more question
            while (calls + m.all().length() < 450 && !TOLD.anyWrong()) {
                if (upTo(4) == 0) {
                    act();
                } else {
                    ask();
                }
            }
            spellAll();
            if (TOLD.anyWrong()) {
                System.out.println(run + ": " + text + " is now " + m.all());
            }
        }
        for (int n = 0; n < 40000 && !TOLD.anyWrong(); n++) {
            x = new SignSquares();
            m = new Model();
            String text = damaged(goodText());
            run = "'" + text + "'";
            tell(text);
            if (upTo(10) == 0) {
                spellAll();
            }
        }
        for (int n = 0; n < 2500 && !TOLD.anyWrong(); n++) {
            arrangeSmallSigns();
        }
        TOLD.end();
    }

    /** Small signs in small squares: many arrangements are as great, and brackets and bytes decide. */
    private static void arrangeSmallSigns() {
        x = new SignSquares();
        m = new Model();
        StringBuilder s = new StringBuilder();
        s.append("side ").append(1 + upTo(8)).append(";gap ").append(upTo(2)).append(";");
        for (char l = 'a'; l < 'd'; l++) {
            s.append("sign ").append(l).append(' ').append(1 + upTo(4)).append(' ').append(1 + upTo(4)).append(";");
        }
        s.append("line ");
        int signs = 4 + upTo(3);
        for (int k = 0; k < signs; k++) {
            s.append(k == 0 ? "" : ":").append((char) ('a' + upTo(3)));
        }
        run = "'" + s + ";'";
        tell(s + ";");
        due("arrange", x.arrange(0, 0), m.arrange(0, 0));
        spellAll();
    }

    private static void due(String call, long got, long want) {
        calls++;
        TOLD.due(run + ": " + call, got, want);
    }

    private static void due(String call, boolean got, boolean want) {
        calls++;
        TOLD.due(run + ": " + call, got, want);
    }

    // ---- texts

    private static String letters;
    private static String cored;
    private static int signsLeft;

    private static String blank() {
        return upTo(30) == 0 ? " " : "";
    }

    private static String goodText() {
        StringBuilder s = new StringBuilder();
        if (upTo(2) == 0) {
            s.append("side ").append(1 + upTo(24)).append(";");
        }
        if (upTo(2) == 0) {
            s.append("gap ").append(upTo(4)).append(";");
        }
        letters = "";
        cored = "";
        int told = 2 + upTo(4);
        int most = upTo(3) == 0 ? 4 : 12;
        for (int k = 0; k < told; k++) {
            tellSign(s, most);
        }
        int lines = 1 + upTo(3);
        for (int l = 0; l < lines; l++) {
            s.append(blank()).append("line").append(upTo(2) == 0 ? " left " : " ");
            int squares = 1 + upTo(4);
            for (int k = 0; k < squares; k++) {
                signsLeft = 1 + upTo(10 - squares);
                s.append(k == 0 ? "" : "-").append(group(0, 0));
            }
            s.append(blank()).append(";");
        }
        return s.length() > 400 ? goodText() : s.toString();
    }

    private static void tellSign(StringBuilder s, int most) {
        char l = (char) ('a' + upTo(26));
        if (letters.indexOf(l) >= 0) {
            return;
        }
        int w = 1 + upTo(most);
        int h = 1 + upTo(most);
        s.append("sign ").append(l).append(' ').append(w).append(' ').append(h);
        letters += l;
        if (upTo(2) == 0) {
            s.append(" core ").append(1 + upTo(w)).append(' ').append(1 + upTo(h));
            cored += l;
        }
        s.append(";");
    }

    private static String group(int open, int cores) {
        StringBuilder s = new StringBuilder(part(open, cores));
        for (int k = 0; k < 6 && signsLeft > 0 && upTo(4) > 0; k++) {
            s.append(blank()).append(upTo(2) == 0 ? '*' : ':').append(blank()).append(part(open, cores));
        }
        return s.toString();
    }

    private static String part(int open, int cores) {
        if (open < 6 && signsLeft > 1 && upTo(3) == 0) {
            return "(" + group(open + 1, cores) + ")";
        }
        char l = letters.charAt(upTo(letters.length()));
        signsLeft--;
        boolean fill = open < 6 && cores < 3 && cored.indexOf(l) >= 0 && signsLeft > 0 && upTo(2) == 0;
        return l + (fill ? blank() + "<" + group(open + 1, cores + 1) + ">" : "");
    }

    private static String damaged(String text) {
        String bits = "abz ;*:-()<>0129 side gap sign core line left A{" + (char) 200 + (char) 0;
        StringBuilder s = new StringBuilder(text);
        int times = upTo(3);
        for (int k = 0; k < times; k++) {
            int at = upTo(s.length());
            switch (upTo(5)) {
                case 0 -> s.deleteCharAt(at);
                case 1 -> s.insert(at, bits.charAt(upTo(bits.length())));
                case 2 -> s.setCharAt(at, bits.charAt(upTo(bits.length())));
                case 3 -> s.insert(at, s.substring(at, Math.min(s.length(), at + upTo(20))));
                default -> s.setLength(Math.max(1, at));
            }
        }
        return s.length() > 400 ? s.substring(0, 400) : s.toString();
    }

    private static void tell(String text) {
        for (int from = 0; from < text.length(); from += 20) {
            int[] v = new int[5];
            for (int i = 0; i < 20; i++) {
                v[i / 4] = v[i / 4] << 8 | (from + i < text.length() ? text.charAt(from + i) : 'x');
            }
            due("feed", x.feed(v[0], v[1], v[2], v[3], v[4]), m.feed(v[0], v[1], v[2], v[3], v[4]));
        }
        int over = (20 - text.length() % 20) % 20;
        due("back", x.back(over), m.back(over));
        due("text()", x.text(), m.text());
    }

    private static void spellAll() {
        StringBuilder s = new StringBuilder();
        int n = x.spell(-1, -1, -1);
        for (int i = 0; i < n; i++) {
            s.append((char) x.spell(-1, -1, i));
        }
        TOLD.due(run + ": all", s.toString(), m.all());
    }

    // ---- calls

    private static int l;
    private static int q;
    private static int i;

    private static void pick() {
        l = near(Math.max(1, m.count(0)));
        q = near(Math.max(1, m.line(l, 0)));
        i = near(Math.max(1, m.square(l, q, 0)));
    }

    private static String where(String call) {
        return call + "(" + l + ", " + q + ", " + i + ")";
    }

    private static void act() {
        pick();
        int a = near(4);
        int letter = upTo(3) > 0 ? letters.charAt(upTo(letters.length())) - 'a' : near(26);
        switch (upTo(14)) {
            case 0 -> due(where("exchange"), x.exchange(l, q, i, letter), m.exchange(l, q, i, letter));
            case 1 -> due(where("turn"), x.turn(l, q), m.turn(l, q));
            case 2 -> due(where("join"), x.join(l, q), m.join(l, q));
            case 3 -> due(where("part"), x.part(l, q), m.part(l, q));
            case 4 -> due(where("swap"), x.swap(l, q, i, a), m.swap(l, q, i, a));
            case 5 -> due(where("insert"), x.insert(l, q, i), m.insert(l, q, i));
            case 6 -> due(where("release"), x.release(l, q, i), m.release(l, q, i));
            case 7 -> due(where("move"), x.move(l, q, a), m.move(l, q, a));
            case 8 -> due(where("mirror"), x.mirror(l), m.mirror(l));
            case 9 -> {
                if (upTo(3) == 0) {
                    due(where("arrange"), x.arrange(l, q), m.arrange(l, q));
                }
            }
            case 10 -> {
                int side = near(26);
                due("side " + side, x.side(side), m.side(side));
            }
            case 11 -> {
                int gap = near(5);
                due("gap " + gap, x.gap(gap), m.gap(gap));
            }
            case 12 -> due(where("join"), x.join(l, q), m.join(l, q));
            default -> {
                for (int n = upTo(5); n >= 0; n--) {
                    due("undo", x.undo(), m.undo());
                }
            }
        }
    }

    private static void ask() {
        pick();
        int w = near(2);
        switch (upTo(20)) {
            case 0 -> {
                int letter = near(26);
                int what = near(5);
                due("sign " + letter + " " + what, x.sign(letter, what), m.sign(letter, what));
            }
            case 1 -> {
                int what = near(3);
                due("line " + l + " " + what, x.line(l, what), m.line(l, what));
            }
            case 2, 3 -> {
                int what = near(8);
                due(where("square " + what), x.square(l, q, what), m.square(l, q, what));
            }
            case 4 -> due(where("scale " + w), x.scale(l, q, w), m.scale(l, q, w));
            case 5 -> due(where("letter"), x.letter(l, q, i), m.letter(l, q, i));
            case 6 -> due(where("inside"), x.inside(l, q, i), m.inside(l, q, i));
            case 7, 8 -> {
                int side = near(5);
                due(where("box " + side + " " + w), x.box(l, q, i, side, w), m.box(l, q, i, side, w));
            }
            case 9, 10 -> askPoint();
            case 11 -> due(where("column"), x.column(l, q), m.column(l, q));
            case 12 -> due(where("covered " + w), x.covered(l, q, w), m.covered(l, q, w));
            case 13 -> due(where("smallest"), x.smallest(l, q), m.smallest(l, q));
            case 14 -> {
                int other = near(3);
                due(where("same"), x.same(l, q, other, i), m.same(l, q, other, i));
            }
            case 15 -> {
                due(where("tightest"), x.tightest(l), m.tightest(l));
                due(where("least " + w), x.least(l, w), m.least(l, w));
            }
            case 16 -> askBest(w);
            case 17 -> due(where("joined " + w), x.joined(l, q, w), m.joined(l, q, w));
            case 18 -> {
                int n = near(40);
                due(where("spell " + n), x.spell(l, q, n), m.spell(l, q, n));
                due(where("spell line " + n), x.spell(l, -1, n), m.spell(l, -1, n));
                due(where("spell all " + n), x.spell(-1, q, n), m.spell(-1, q, n));
            }
            default -> {
                int what = near(9);
                due("count " + what, x.count(what), m.count(what));
            }
        }
    }

    private static void askBest(int w) {
        if (upTo(6) > 0) {
            return;
        }
        int n = near(12);
        due(where("ways"), x.ways(l, q), m.ways(l, q));
        due(where("best " + w), x.best(l, q, w), m.best(l, q, w));
        due(where("bestText " + n), x.bestText(l, q, n), m.bestText(l, q, n));
        int length = m.bestText(l, q, -1);
        for (int k = -1; k < length; k++) {
            due(where("bestText " + k), x.bestText(l, q, k), m.bestText(l, q, k));
        }
    }

    /** Points anywhere, and points right on edges of boxes. */
    private static void askPoint() {
        int by = near(100);
        int px = near(24 * Math.max(1, by % 101));
        int py = near(24 * Math.max(1, by % 101));
        long below = m.box(l, q, i, 0, 1);
        if (upTo(2) == 0 && below > 0 && below <= 100 && m.box(l, q, i, 1, 1) <= 100) {
            long lcm = below * m.box(l, q, i, 1, 1);
            if (lcm <= 100) {
                by = (int) lcm;
                px = (int) (m.box(l, q, i, 0, 0) * (lcm / below)) + upTo(3) - 1;
                py = (int) (m.box(l, q, i, 1, 0) * (lcm / m.box(l, q, i, 1, 1))) + upTo(3) - 1;
            }
        }
        due(where("at " + px + " " + py + " " + by), x.at(l, q, px, py, by), m.at(l, q, px, py, by));
    }
}
