import java.math.BigInteger;
import java.util.ArrayList;
import java.util.List;
import java.util.TreeSet;

/**
 * The document a second time, in another way: squares are texts, read into rows of parts when they are needed,
 * laid out from their corners with fractions. Slow, and only to be held against the class.
 */
final class Model {
    static final class Part {
        int letter = -1;
        Group within;
        Group bracketed;
    }

    static final class Group {
        final List<List<Part>> rows = new ArrayList<>();
    }

    static final class Fraction implements Comparable<Fraction> {
        final BigInteger above;
        final BigInteger below;

        Fraction(long above, long below) {
            this(BigInteger.valueOf(above), BigInteger.valueOf(below));
        }

        Fraction(BigInteger above, BigInteger below) {
            BigInteger by = above.gcd(below);
            this.above = above.divide(by);
            this.below = below.divide(by);
        }

        Fraction plus(Fraction o) {
            return new Fraction(above.multiply(o.below).add(o.above.multiply(below)), below.multiply(o.below));
        }

        Fraction minus(Fraction o) {
            return plus(new Fraction(o.above.negate(), o.below));
        }

        Fraction times(Fraction o) {
            return new Fraction(above.multiply(o.above), below.multiply(o.below));
        }

        Fraction half() {
            return times(new Fraction(1, 2));
        }

        Fraction least(Fraction o) {
            return compareTo(o) <= 0 ? this : o;
        }

        public int compareTo(Fraction o) {
            return above.multiply(o.below).compareTo(o.above.multiply(below));
        }

        long told(int what) {
            return what == 0 ? above.longValueExact() : what == 1 ? below.longValueExact() : -1;
        }
    }

    static final class Box {
        Part part;
        int holder;
        Fraction left;
        Fraction top;
        Fraction width;
        Fraction height;
        Fraction scale;
    }

    static final class Row {
        boolean left;
        List<String> squares = new ArrayList<>();

        Row copy() {
            Row r = new Row();
            r.left = left;
            r.squares.addAll(squares);
            return r;
        }
    }

    static final class State {
        int side = 12;
        int gap = 1;
        List<Row> lines = new ArrayList<>();

        State copy() {
            State s = new State();
            s.side = side;
            s.gap = gap;
            for (Row r : lines) {
                s.lines.add(r.copy());
            }
            return s;
        }
    }

    private StringBuilder tape = new StringBuilder();
    private int[][] table = new int[26][];
    private State now = new State();
    private final List<State> past = new ArrayList<>();

    // ---- told

    int feed(int a, int b, int c, int d, int e) {
        if (tape.length() > 380) {
            return -1;
        }
        for (int v : new int[] {a, b, c, d, e}) {
            tape.append((char) (v >>> 24)).append((char) (v >>> 16 & 255)).append((char) (v >>> 8 & 255));
            tape.append((char) (v & 255));
        }
        return tape.length();
    }

    int back(int n) {
        if (n < 0 || n > tape.length()) {
            return -1;
        }
        tape.setLength(tape.length() - n);
        return tape.length();
    }

    /** A word, a number or a mark, and where it begins. */
    private record Token(String s, int from, boolean glued) {
    }

    private List<Token> tokens;
    private int next;
    private int length;
    private int[][] toldTable;
    private int toldSigns;
    private int squareSigns;

    private static final class Fault extends RuntimeException {
        final int at;

        Fault(int at) {
            super("fault", null, false, false);
            this.at = at;
        }
    }

    int text() {
        String all = tape.toString();
        tape.setLength(0);
        cut(all);
        State s = new State();
        toldTable = new int[26][];
        toldSigns = 0;
        try {
            while (next < tokens.size()) {
                sentence(s);
            }
        } catch (Fault f) {
            return -4 - f.at;
        }
        now = s;
        table = toldTable;
        past.clear();
        return now.lines.size();
    }

    private void cut(String all) {
        tokens = new ArrayList<>();
        next = 0;
        length = all.length();
        int i = 0;
        boolean behind = false;
        while (i < all.length()) {
            int from = i;
            if (isLow(all.charAt(i))) {
                while (i < all.length() && isLow(all.charAt(i))) {
                    i++;
                }
            } else if (isDigit(all.charAt(i))) {
                while (i < all.length() && isDigit(all.charAt(i))) {
                    i++;
                }
            } else {
                i++;
            }
            String s = all.substring(from, i);
            boolean wordy = isLow(s.charAt(0)) || isDigit(s.charAt(0));
            if (!s.equals(" ")) {
                tokens.add(new Token(s, from, wordy && behind));
            }
            behind = wordy;
        }
    }

    private static boolean isLow(char c) {
        return c >= 'a' && c <= 'z';
    }

    private static boolean isDigit(char c) {
        return c >= '0' && c <= '9';
    }

    private String peek() {
        return next < tokens.size() && !tokens.get(next).glued ? tokens.get(next).s : "";
    }

    private Fault fault() {
        return new Fault(next < tokens.size() ? tokens.get(next).from : length);
    }

    private void mark(String s) {
        if (!peek().equals(s)) {
            throw fault();
        }
        next++;
    }

    private int number(int low, int high) {
        String s = peek();
        if (!s.matches("[0-9]{1,2}") || Integer.parseInt(s) < low || Integer.parseInt(s) > high) {
            throw fault();
        }
        next++;
        return Integer.parseInt(s);
    }

    private void sentence(State s) {
        switch (peek()) {
            case "side" -> {
                next++;
                s.side = number(1, 24);
            }
            case "gap" -> {
                next++;
                s.gap = number(0, 3);
            }
            case "sign" -> {
                next++;
                String l = peek();
                if (!l.matches("[a-z]") || toldTable[l.charAt(0) - 'a'] != null || toldSigns == 12) {
                    throw fault();
                }
                next++;
                int[] sizes = {number(1, 12), number(1, 12), 0, 0};
                if (peek().equals("core")) {
                    next++;
                    sizes[2] = number(1, sizes[0]);
                    sizes[3] = number(1, sizes[1]);
                }
                toldTable[l.charAt(0) - 'a'] = sizes;
                toldSigns++;
            }
            case "line" -> {
                if (s.lines.size() == 4) {
                    throw fault();
                }
                next++;
                s.lines.add(lineOf());
            }
            default -> throw fault();
        }
        mark(";");
    }

    private Row lineOf() {
        Row r = new Row();
        if (peek().equals("left")) {
            r.left = true;
            next++;
        }
        while (true) {
            squareSigns = 0;
            r.squares.add(write(normal(group(""))));
            if (!peek().equals("-")) {
                return r;
            }
            if (r.squares.size() == 8) {
                throw fault();
            }
            next++;
        }
    }

    private Group group(String open) {
        Group g = new Group();
        List<Part> row = new ArrayList<>();
        g.rows.add(row);
        while (true) {
            row.add(partOf(open));
            if (peek().equals(":")) {
                row = new ArrayList<>();
                g.rows.add(row);
            } else if (!peek().equals("*")) {
                return g;
            }
            next++;
        }
    }

    private Part partOf(String open) {
        Part p = new Part();
        String s = peek();
        if (s.equals("(") && open.length() < 6) {
            next++;
            p.bracketed = group(open + "(");
            mark(")");
            return p;
        }
        if (!s.matches("[a-z]") || toldTable[s.charAt(0) - 'a'] == null || squareSigns == 10) {
            throw fault();
        }
        next++;
        squareSigns++;
        p.letter = s.charAt(0) - 'a';
        if (peek().equals("<")) {
            long cores = open.chars().filter(c -> c == '<').count();
            if (open.length() == 6 || cores == 3 || toldTable[p.letter][2] == 0) {
                throw fault();
            }
            next++;
            p.within = group(open + "<");
            mark(">");
        }
        return p;
    }

    // ---- groups and their texts

    static Group normal(Group g) {
        Group n = new Group();
        for (List<Part> row : g.rows) {
            List<Part> out = new ArrayList<>();
            for (Part p : row) {
                Part q = new Part();
                q.letter = p.letter;
                q.within = p.within == null ? null : normal(p.within);
                q.bracketed = p.bracketed == null ? null : normal(p.bracketed);
                if (q.bracketed != null && q.bracketed.rows.size() == 1) {
                    out.addAll(q.bracketed.rows.get(0));
                } else {
                    out.add(q);
                }
            }
            if (out.size() == 1 && out.get(0).bracketed != null) {
                n.rows.addAll(out.get(0).bracketed.rows);
            } else {
                n.rows.add(out);
            }
        }
        return n;
    }

    static String write(Group g) {
        List<String> rows = new ArrayList<>();
        for (List<Part> row : g.rows) {
            List<String> parts = new ArrayList<>();
            for (Part p : row) {
                parts.add(write(p));
            }
            rows.add(String.join("*", parts));
        }
        return String.join(":", rows);
    }

    static String write(Part p) {
        if (p.bracketed != null) {
            return "(" + write(p.bracketed) + ")";
        }
        return (char) ('a' + p.letter) + (p.within == null ? "" : "<" + write(p.within) + ">");
    }

    /** Reads a text that is known to be good. */
    private static Group read(String s) {
        int[] at = {0};
        return readGroup(s, at);
    }

    private static Group readGroup(String s, int[] at) {
        Group g = new Group();
        List<Part> row = new ArrayList<>();
        g.rows.add(row);
        while (true) {
            Part p = new Part();
            char c = s.charAt(at[0]++);
            if (c == '(') {
                p.bracketed = readGroup(s, at);
                at[0]++;
            } else {
                p.letter = c - 'a';
                if (at[0] < s.length() && s.charAt(at[0]) == '<') {
                    at[0]++;
                    p.within = readGroup(s, at);
                    at[0]++;
                }
            }
            row.add(p);
            char then = at[0] < s.length() ? s.charAt(at[0]) : ')';
            if (then == ':') {
                row = new ArrayList<>();
                g.rows.add(row);
            } else if (then != '*') {
                return g;
            }
            at[0]++;
        }
    }

    private static void signs(Group g, Part holder, List<Part> out, List<Part> holders) {
        for (List<Part> row : g.rows) {
            for (Part p : row) {
                if (p.bracketed != null) {
                    signs(p.bracketed, holder, out, holders);
                    continue;
                }
                out.add(p);
                holders.add(holder);
                if (p.within != null) {
                    signs(p.within, p, out, holders);
                }
            }
        }
    }

    private static List<Part> signs(Group g) {
        List<Part> out = new ArrayList<>();
        signs(g, null, out, new ArrayList<>());
        return out;
    }

    private static List<Part> outer(Group g) {
        List<Part> out = new ArrayList<>();
        List<Part> holders = new ArrayList<>();
        signs(g, null, out, holders);
        List<Part> outer = new ArrayList<>();
        for (int i = 0; i < out.size(); i++) {
            if (holders.get(i) == null) {
                outer.add(out.get(i));
            }
        }
        return outer;
    }

    private static int signsIn(String s) {
        return (int) s.chars().filter(c -> c >= 'a').count();
    }

    private static int deepest(String s, String opening, String closing) {
        int deep = 0;
        int most = 0;
        for (char c : s.toCharArray()) {
            deep += opening.indexOf(c) >= 0 ? 1 : closing.indexOf(c) >= 0 ? -1 : 0;
            most = Math.max(most, deep);
        }
        return most;
    }

    // ---- sizes and places

    private int wide(Part p) {
        return p.bracketed != null ? wide(p.bracketed) : table[p.letter][0];
    }

    private int high(Part p) {
        return p.bracketed != null ? high(p.bracketed) : table[p.letter][1];
    }

    private int rowWide(List<Part> row) {
        int w = now.gap * (row.size() - 1);
        for (Part p : row) {
            w += wide(p);
        }
        return w;
    }

    private int rowHigh(List<Part> row) {
        int h = 0;
        for (Part p : row) {
            h = Math.max(h, high(p));
        }
        return h;
    }

    private int wide(Group g) {
        int w = 0;
        for (List<Part> row : g.rows) {
            w = Math.max(w, rowWide(row));
        }
        return w;
    }

    private int high(Group g) {
        int h = now.gap * (g.rows.size() - 1);
        for (List<Part> row : g.rows) {
            h += rowHigh(row);
        }
        return h;
    }

    private Fraction fit(Group g, int w, int h) {
        return new Fraction(1, 1).least(new Fraction(w, wide(g))).least(new Fraction(h, high(g)));
    }

    private Fraction scaleOf(String s) {
        return fit(read(s), now.side, now.side);
    }

    private static Fraction f(long n) {
        return new Fraction(n, 1);
    }

    private List<Box> boxes(String s, boolean left) {
        Group g = read(s);
        Fraction scale = fit(g, now.side, now.side);
        List<Box> out = new ArrayList<>();
        Fraction x = f(now.side).minus(scale.times(f(wide(g)))).half();
        Fraction y = f(now.side).minus(scale.times(f(high(g)))).half();
        lay(g, x, y, scale, -2, out);
        if (left) {
            for (Box b : out) {
                b.left = f(now.side).minus(b.left.plus(b.width));
            }
        }
        return out;
    }

    private void lay(Group g, Fraction left, Fraction top, Fraction scale, int holder, List<Box> out) {
        Fraction y = top;
        for (List<Part> row : g.rows) {
            Fraction x = left.plus(scale.times(f(wide(g) - rowWide(row))).half());
            for (Part p : row) {
                Fraction py = y.plus(scale.times(f(rowHigh(row) - high(p))).half());
                if (p.bracketed != null) {
                    lay(p.bracketed, x, py, scale, holder, out);
                } else {
                    laySign(p, x, py, scale, holder, out);
                }
                x = x.plus(scale.times(f(wide(p) + now.gap)));
            }
            y = y.plus(scale.times(f(rowHigh(row) + now.gap)));
        }
    }

    private void laySign(Part p, Fraction x, Fraction y, Fraction scale, int holder, List<Box> out) {
        Box b = new Box();
        b.part = p;
        b.holder = holder;
        b.left = x;
        b.top = y;
        b.scale = scale;
        b.width = scale.times(f(wide(p)));
        b.height = scale.times(f(high(p)));
        out.add(b);
        if (p.within == null) {
            return;
        }
        int cw = table[p.letter][2];
        int ch = table[p.letter][3];
        Fraction then = scale.times(fit(p.within, cw, ch));
        Fraction coreLeft = x.plus(scale.times(f(wide(p) - cw)).half());
        Fraction coreTop = y.plus(scale.times(f(high(p) - ch)).half());
        Fraction gx = coreLeft.plus(scale.times(f(cw)).minus(then.times(f(wide(p.within)))).half());
        Fraction gy = coreTop.plus(scale.times(f(ch)).minus(then.times(f(high(p.within)))).half());
        lay(p.within, gx, gy, then, out.size() - 1, out);
    }

    // ---- acts

    private Row row(int line) {
        return line >= 0 && line < now.lines.size() ? now.lines.get(line) : null;
    }

    private String sq(int line, int square) {
        Row r = row(line);
        return r != null && square >= 0 && square < r.squares.size() ? r.squares.get(square) : null;
    }

    private void remember() {
        past.add(now.copy());
        if (past.size() > 12) {
            past.remove(0);
        }
    }

    boolean exchange(int line, int square, int i, int letter) {
        String s = sq(line, square);
        if (s == null || letter < 0 || letter > 25 || table[letter] == null) {
            return false;
        }
        Group g = read(s);
        List<Part> all = signs(g);
        if (i < 0 || i >= all.size() || all.get(i).letter == letter
                || all.get(i).within != null && table[letter][2] == 0) {
            return false;
        }
        remember();
        all.get(i).letter = letter;
        row(line).squares.set(square, write(normal(g)));
        return true;
    }

    private static Group turned(Group g) {
        // each row becomes a part of one row: its parts above one another
        Group out = new Group();
        List<Part> one = new ArrayList<>();
        out.rows.add(one);
        for (List<Part> row : g.rows) {
            Part column = new Part();
            column.bracketed = new Group();
            for (Part p : row) {
                Part q = p;
                if (p.bracketed != null) {
                    q = new Part();
                    q.bracketed = turned(p.bracketed);
                }
                column.bracketed.rows.add(new ArrayList<>(List.of(q)));
            }
            one.add(column);
        }
        return out;
    }

    boolean turn(int line, int square) {
        String s = sq(line, square);
        if (s == null) {
            return false;
        }
        Group g = read(s);
        if (g.rows.size() == 1 && g.rows.get(0).size() == 1) {
            return false;
        }
        remember();
        row(line).squares.set(square, write(normal(turned(g))));
        return true;
    }

    private static String together(String a, String b) {
        return write(normal(read("(" + a + ")*(" + b + ")")));
    }

    boolean join(int line, int square) {
        String a = sq(line, square);
        String b = a == null ? null : sq(line, square + 1);
        if (b == null || signsIn(a) + signsIn(b) > 10) {
            return false;
        }
        remember();
        row(line).squares.set(square, together(a, b));
        row(line).squares.remove(square + 1);
        return true;
    }

    boolean part(int line, int square) {
        String s = sq(line, square);
        if (s == null || row(line).squares.size() == 8) {
            return false;
        }
        Group g = read(s);
        Group first = new Group();
        if (g.rows.size() > 1) {
            first.rows.add(g.rows.remove(0));
        } else if (g.rows.get(0).size() > 1) {
            first.rows.add(new ArrayList<>(List.of(g.rows.get(0).remove(0))));
        } else {
            return false;
        }
        remember();
        row(line).squares.set(square, write(normal(first)));
        row(line).squares.add(square + 1, write(normal(g)));
        return true;
    }

    boolean swap(int line, int square, int a, int b) {
        String s = sq(line, square);
        if (s == null || a == b) {
            return false;
        }
        Group g = read(s);
        List<?> of = g.rows.size() > 1 ? g.rows : g.rows.get(0);
        if (a < 0 || b < 0 || a >= of.size() || b >= of.size()) {
            return false;
        }
        remember();
        java.util.Collections.swap(of, a, b);
        row(line).squares.set(square, write(normal(g)));
        return true;
    }

    boolean insert(int line, int square, int i) {
        String s = sq(line, square);
        String next = s == null ? null : sq(line, square + 1);
        if (next == null || signsIn(s) + signsIn(next) > 10) {
            return false;
        }
        Group g = read(s);
        List<Part> all = signs(g);
        if (i < 0 || i >= all.size() || all.get(i).within != null || table[all.get(i).letter][2] == 0) {
            return false;
        }
        all.get(i).within = read(next);
        String filled = write(normal(g));
        if (deepest(filled, "<", ">") > 3) {
            return false;
        }
        remember();
        row(line).squares.set(square, filled);
        row(line).squares.remove(square + 1);
        return true;
    }

    boolean release(int line, int square, int i) {
        String s = sq(line, square);
        if (s == null || row(line).squares.size() == 8) {
            return false;
        }
        Group g = read(s);
        List<Part> all = signs(g);
        if (i < 0 || i >= all.size() || all.get(i).within == null) {
            return false;
        }
        remember();
        Group out = all.get(i).within;
        all.get(i).within = null;
        row(line).squares.set(square, write(normal(g)));
        row(line).squares.add(square + 1, write(normal(out)));
        return true;
    }

    boolean move(int line, int square, int to) {
        if (sq(line, square) == null || sq(line, to) == null || square == to) {
            return false;
        }
        remember();
        List<String> all = row(line).squares;
        all.add(to, all.remove(square));
        return true;
    }

    boolean mirror(int line) {
        if (row(line) == null) {
            return false;
        }
        remember();
        row(line).left = !row(line).left;
        return true;
    }

    boolean arrange(int line, int square) {
        String s = sq(line, square);
        if (s == null || outer(read(s)).size() > 6 || bestOf(s).equals(s)) {
            return false;
        }
        remember();
        row(line).squares.set(square, bestOf(s));
        return true;
    }

    int side(int side) {
        int was = now.side;
        if (side < 1 || side > 24 || side == was) {
            return -1;
        }
        remember();
        now.side = side;
        return was;
    }

    int gap(int gap) {
        int was = now.gap;
        if (gap < 0 || gap > 3 || gap == was) {
            return -1;
        }
        remember();
        now.gap = gap;
        return was;
    }

    int undo() {
        if (past.isEmpty()) {
            return -1;
        }
        now = past.remove(past.size() - 1);
        return past.size();
    }

    // ---- asked

    int sign(int letter, int what) {
        if (letter < 0 || letter > 25 || what < 0 || what > 4) {
            return -1;
        }
        if (table[letter] == null) {
            return -2;
        }
        if (what < 4) {
            return table[letter][what];
        }
        int n = 0;
        for (Row r : now.lines) {
            for (String s : r.squares) {
                n += (int) s.chars().filter(c -> c == 'a' + letter).count();
            }
        }
        return n;
    }

    int line(int line, int what) {
        Row r = row(line);
        if (r == null) {
            return -1;
        }
        return switch (what) {
            case 0 -> r.squares.size();
            case 1 -> r.squares.stream().mapToInt(Model::signsIn).sum();
            case 2 -> r.left ? 1 : 0;
            default -> -1;
        };
    }

    int square(int line, int square, int what) {
        String s = sq(line, square);
        if (s == null) {
            return -1;
        }
        Group g = read(s);
        return switch (what) {
            case 0 -> signsIn(s);
            case 1 -> wide(g);
            case 2 -> high(g);
            case 3 -> signsIn(s) - outer(g).size();
            case 4 -> g.rows.size();
            case 5 -> g.rows.get(0).size();
            case 6 -> (int) s.chars().filter(c -> c == '(').count();
            case 7 -> deepest(s, "(<", ")>");
            default -> -1;
        };
    }

    int scale(int line, int square, int what) {
        String s = sq(line, square);
        return s == null ? -1 : (int) scaleOf(s).told(what);
    }

    int letter(int line, int square, int i) {
        String s = sq(line, square);
        return s == null || i < 0 || i >= signsIn(s) ? -1 : signs(read(s)).get(i).letter;
    }

    int inside(int line, int square, int i) {
        String s = sq(line, square);
        return s == null || i < 0 || i >= signsIn(s) ? -1 : boxes(s, false).get(i).holder;
    }

    long box(int line, int square, int i, int side, int what) {
        String s = sq(line, square);
        if (s == null || i < 0 || i >= signsIn(s) || side < 0 || side > 4) {
            return -1;
        }
        Box b = boxes(s, row(line).left).get(i);
        Fraction[] sides = {b.left, b.top, b.width, b.height, b.scale};
        return sides[side].told(what);
    }

    int at(int line, int square, int x, int y, int by) {
        String s = sq(line, square);
        if (s == null || by < 1 || by > 100 || Math.abs((long) x) > 10000 || Math.abs((long) y) > 10000) {
            return -1;
        }
        Fraction px = new Fraction(x, by);
        Fraction py = new Fraction(y, by);
        int found = -2;
        List<Box> all = boxes(s, row(line).left);
        for (int i = 0; i < all.size(); i++) {
            Box b = all.get(i);
            if (b.left.compareTo(px) <= 0 && b.left.plus(b.width).compareTo(px) >= 0
                    && b.top.compareTo(py) <= 0 && b.top.plus(b.height).compareTo(py) >= 0) {
                found = i;
            }
        }
        return found;
    }

    int column(int line, int square) {
        if (sq(line, square) == null) {
            return -1;
        }
        return row(line).left ? row(line).squares.size() - square - 1 : square;
    }

    long covered(int line, int square, int what) {
        String s = sq(line, square);
        if (s == null) {
            return -1;
        }
        Fraction area = f(0);
        for (Box b : boxes(s, false)) {
            if (b.holder < 0) {
                area = area.plus(b.width.times(b.height));
            }
        }
        return area.times(new Fraction(1, (long) now.side * now.side)).told(what);
    }

    int smallest(int line, int square) {
        String s = sq(line, square);
        if (s == null) {
            return -1;
        }
        List<Box> all = boxes(s, false);
        Fraction least = all.get(0).scale;
        for (Box b : all) {
            least = least.least(b.scale);
        }
        int n = 0;
        for (Box b : all) {
            n += b.scale.compareTo(least) == 0 ? 1 : 0;
        }
        return n;
    }

    int same(int line, int square, int other, int otherSquare) {
        String a = sq(line, square);
        String b = sq(other, otherSquare);
        return a == null || b == null ? -1 : a.equals(b) ? 1 : 0;
    }

    int tightest(int line) {
        Row r = row(line);
        if (r == null) {
            return -1;
        }
        int found = 0;
        for (int k = 1; k < r.squares.size(); k++) {
            if (scaleOf(r.squares.get(k)).compareTo(scaleOf(r.squares.get(found))) < 0) {
                found = k;
            }
        }
        return found;
    }

    int least(int line, int what) {
        return row(line) == null ? -1 : (int) scaleOf(row(line).squares.get(tightest(line))).told(what);
    }

    /** All groups of some signs: each two halves beside or above one another, made normal, each text once. */
    private static TreeSet<String> arrangements(List<String> signs) {
        TreeSet<String> all = new TreeSet<>();
        if (signs.size() == 1) {
            all.add(signs.get(0));
        }
        for (int cut = 1; cut < signs.size(); cut++) {
            for (String a : arrangements(signs.subList(0, cut))) {
                for (String b : arrangements(signs.subList(cut, signs.size()))) {
                    all.add(write(normal(read("(" + a + ")*(" + b + ")"))));
                    all.add(write(normal(read("(" + a + "):(" + b + ")"))));
                }
            }
        }
        return all;
    }

    private static TreeSet<String> arrangements(String s) {
        List<String> signs = new ArrayList<>();
        for (Part p : outer(read(s))) {
            signs.add(write(p));
        }
        return arrangements(signs);
    }

    private String bestOf(String s) {
        String found = null;
        for (String one : arrangements(s)) {
            int than = found == null ? 1 : scaleOf(one).compareTo(scaleOf(found));
            if (found != null && than == 0) {
                than = found.length() - one.length();
            }
            if (than > 0) {
                found = one;
            }
        }
        return found;
    }

    int ways(int line, int square) {
        String s = sq(line, square);
        return s == null ? -1 : outer(read(s)).size() > 6 ? -2 : arrangements(s).size();
    }

    int best(int line, int square, int what) {
        String s = sq(line, square);
        if (s == null || what < 0 || what > 1) {
            return -1;
        }
        return outer(read(s)).size() > 6 ? -2 : (int) scaleOf(bestOf(s)).told(what);
    }

    private static int picked(String text, int i) {
        return i == -1 ? text.length() : i >= 0 && i < text.length() ? text.charAt(i) : -1;
    }

    int bestText(int line, int square, int i) {
        String s = sq(line, square);
        if (s == null || i < -1) {
            return -1;
        }
        return outer(read(s)).size() > 6 ? -2 : picked(bestOf(s), i);
    }

    int joined(int line, int square, int what) {
        String a = sq(line, square);
        String b = a == null ? null : sq(line, square + 1);
        if (b == null || what < 0 || what > 1) {
            return -1;
        }
        return signsIn(a) + signsIn(b) > 10 ? -2 : (int) scaleOf(together(a, b)).told(what);
    }

    private static String spelled(Row r) {
        return ("line " + (r.left ? "left " : "") + String.join("-", r.squares) + ";").replace(" (", "(");
    }

    String all() {
        StringBuilder s = new StringBuilder("side " + now.side + ";gap " + now.gap + ";");
        for (int l = 0; l < 26; l++) {
            int[] t = table[l];
            if (t != null) {
                s.append("sign ").append((char) ('a' + l)).append(' ').append(t[0]).append(' ').append(t[1]);
                s.append(t[2] > 0 ? " core " + t[2] + " " + t[3] + ";" : ";");
            }
        }
        for (Row r : now.lines) {
            s.append(spelled(r));
        }
        return s.toString();
    }

    int spell(int line, int square, int i) {
        if (line == -1) {
            return picked(all(), i);
        }
        if (row(line) == null) {
            return -1;
        }
        if (square == -1) {
            return picked(spelled(row(line)), i);
        }
        return sq(line, square) == null ? -1 : picked(sq(line, square), i);
    }

    int count(int what) {
        int squares = 0;
        int signs = 0;
        int told = 0;
        int cores = 0;
        for (int l = 0; l < now.lines.size(); l++) {
            squares += line(l, 0);
            signs += line(l, 1);
        }
        for (int[] t : table) {
            told += t == null ? 0 : 1;
            cores += t == null || t[2] == 0 ? 0 : 1;
        }
        int[] all = {now.lines.size(), squares, signs, told, now.side, now.gap, past.size(), tape.length(), cores};
        return what >= 0 && what < all.length ? all[what] : -1;
    }
}
