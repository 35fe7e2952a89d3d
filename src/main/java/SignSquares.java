import java.util.Arrays;

/** Picture signs in squares: told by a text, changed by acts, asked for their places, exactly. */
public final class SignSquares {
    public static final int NONE = -1;

    /** What is told where there is nothing to tell, though the question is a good one. */
    private static final int NOTHING = -2;
    /** A text's fault is told below this. */
    private static final int FAULTS = -4;

    private static final int LETTERS = 26;
    private static final int MOST_TAPE = 400;
    private static final int MOST_TOLD = 12;
    private static final int MOST_LINES = 4;
    private static final int MOST_SQUARES = 8;
    private static final int MOST_SIGNS = 10;
    private static final int MOST_OPEN = 6;
    private static final int MOST_CORES_OPEN = 3;
    private static final int MOST_SIZE = 12;
    private static final int MOST_SIDE = 24;
    private static final int MOST_GAP = 3;
    private static final int MOST_ACTS = 12;
    private static final int MOST_ARRANGED = 6;
    private static final int FIRST_SIDE = 12;
    private static final int FIRST_GAP = 1;
    private static final int MOST_POINT = 10000;
    private static final int MOST_BY = 100;

    /** A sign's symbol is its letter's number; with this added, a group that is inside it comes next. */
    private static final int HOLDS = 32;
    private static final int BESIDE = 64;
    private static final int ABOVE = 65;
    /** Ten signs, the nine joints between them, and one joint that a text may tell before an 11th sign. */
    private static final int ROOM = 24;

    private Table table = new Table();
    private Moment now = new Moment(new Line[0], FIRST_SIDE, FIRST_GAP);
    private final Moment[] past = new Moment[MOST_ACTS];
    private int acts = 0;
    private final Draft draft = new Draft();
    private final Reader reader = new Reader();
    private final Layout layout = new Layout();
    private final Speller speller = new Speller();
    private final Arranger arranger = new Arranger();

    public SignSquares() {
    }

    // ---- told

    public int feed(int a, int b, int c, int d, int e) {
        if (reader.taped + 20 > MOST_TAPE) {
            return NONE;
        }
        reader.takeFour(a);
        reader.takeFour(b);
        reader.takeFour(c);
        reader.takeFour(d);
        reader.takeFour(e);
        return reader.taped;
    }

    public int back(int n) {
        if (n < 0 || n > reader.taped) {
            return NONE;
        }
        reader.taped -= n;
        return reader.taped;
    }

    public int text() {
        reader.begin();
        if (!reader.readAll()) {
            return FAULTS - reader.at;
        }
        table = reader.table;
        now = reader.told();
        forgetActs();
        return now.lines.length;
    }

    // ---- acts

    public boolean exchange(int line, int square, int i, int letter) {
        Square old = squareAt(line, square);
        if (old == null || !table.has(letter)) {
            return false;
        }
        int place = old.placeOf(i);
        int symbol = old.symbol(place);
        if (place == NONE || letterOf(symbol) == letter || (holds(symbol) && !table.hasCore(letter))) {
            return false;
        }
        draft.take(old);
        draft.change(place, holds(symbol) ? letter + HOLDS : letter);
        return become(line, square, draft.made());
    }

    public boolean turn(int line, int square) {
        Square old = squareAt(line, square);
        if (old == null || !isJoint(old.symbol(0))) {
            return false;
        }
        draft.take(old);
        for (int i = 0; i < old.length(); i++) {
            int symbol = old.symbol(i);
            if (isJoint(symbol) && old.holderOf(i) == NONE) {
                draft.change(i, symbol == BESIDE ? ABOVE : BESIDE);
            }
        }
        return become(line, square, draft.made());
    }

    public boolean join(int line, int square) {
        Square both = bothJoined(squareAt(line, square), squareBehind(line, square));
        Line row = lineAt(line);
        return both != null && row != null && replaceLine(line, row.withoutNext(square, both));
    }

    public boolean part(int line, int square) {
        Line row = lineAt(line);
        Square old = squareAt(line, square);
        if (row == null || old == null || !isJoint(old.symbol(0)) || row.size() >= MOST_SQUARES) {
            return false;
        }
        int cut = old.endOf(1);
        Square first = slice(old, 1, cut);
        Square others = slice(old, cut, old.length());
        return replaceLine(line, row.withNext(square, first, others));
    }

    public boolean swap(int line, int square, int a, int b) {
        Square old = squareAt(line, square);
        if (old == null || a == b || a < 0 || b < 0 || !isJoint(old.symbol(0))) {
            return false;
        }
        int joint = old.symbol(0);
        int links = old.links(0, joint);
        if (a >= links || b >= links) {
            return false;
        }
        draft.clear();
        for (int k = 0; k < links; k++) {
            int from = old.linkPlace(0, joint, k == a ? b : k == b ? a : k);
            if (k < links - 1) {
                draft.put(joint);
            }
            draft.putAll(old, from, old.endOf(from));
        }
        return become(line, square, draft.made());
    }

    public boolean insert(int line, int square, int i) {
        Line row = lineAt(line);
        Square old = squareAt(line, square);
        Square next = squareBehind(line, square);
        if (row == null || old == null || next == null || old.signs() + next.signs() > MOST_SIGNS) {
            return false;
        }
        int place = old.placeOf(i);
        int symbol = old.symbol(place);
        if (place == NONE || holds(symbol) || !table.hasCore(letterOf(symbol))) {
            return false;
        }
        draft.clear();
        draft.putAll(old, 0, place);
        draft.put(symbol + HOLDS);
        draft.putAll(next, 0, next.length());
        draft.putAll(old, place + 1, old.length());
        Square filled = draft.made();
        return spelled(filled, NONE).deepestCores <= MOST_CORES_OPEN
                && replaceLine(line, row.withoutNext(square, filled));
    }

    public boolean release(int line, int square, int i) {
        Line row = lineAt(line);
        Square old = squareAt(line, square);
        if (row == null || old == null || row.size() >= MOST_SQUARES) {
            return false;
        }
        int place = old.placeOf(i);
        int symbol = old.symbol(place);
        if (place == NONE || !holds(symbol)) {
            return false;
        }
        int end = old.endOf(place);
        Square out = slice(old, place + 1, end);
        draft.clear();
        draft.putAll(old, 0, place);
        draft.put(letterOf(symbol));
        draft.putAll(old, end, old.length());
        return replaceLine(line, row.withNext(square, draft.made(), out));
    }

    public boolean move(int line, int square, int to) {
        Line row = lineAt(line);
        if (row == null || !row.has(square) || !row.has(to) || square == to) {
            return false;
        }
        return replaceLine(line, row.moved(square, to));
    }

    public boolean mirror(int line) {
        Line row = lineAt(line);
        return row != null && replaceLine(line, new Line(row.squares, !row.left));
    }

    public boolean arrange(int line, int square) {
        Square old = squareAt(line, square);
        Square found = bestOf(old);
        if (old == null || found == null || found.isLike(old)) {
            return false;
        }
        return become(line, square, found);
    }

    public int side(int side) {
        int was = now.side;
        if (side < 1 || side > MOST_SIDE || side == was) {
            return NONE;
        }
        act(new Moment(now.lines, side, now.gap));
        return was;
    }

    public int gap(int gap) {
        int was = now.gap;
        if (gap < 0 || gap > MOST_GAP || gap == was) {
            return NONE;
        }
        act(new Moment(now.lines, now.side, gap));
        return was;
    }

    public int undo() {
        if (acts <= 0 || acts > MOST_ACTS) {
            return NONE;
        }
        Moment before = past[acts - 1];
        if (before == null) {
            return NONE;
        }
        acts--;
        past[acts] = null;
        now = before;
        return acts;
    }

    // ---- asked

    public int sign(int letter, int what) {
        if (letter < 0 || letter >= LETTERS || what < 0 || what > 4) {
            return NONE;
        }
        if (!table.has(letter)) {
            return NOTHING;
        }
        switch (what) {
            case 0: return table.wideOf(letter);
            case 1: return table.highOf(letter);
            case 2: return table.coreWideOf(letter);
            case 3: return table.coreHighOf(letter);
            default: return timesOf(letter);
        }
    }

    public int line(int line, int what) {
        Line row = lineAt(line);
        if (row == null) {
            return NONE;
        }
        switch (what) {
            case 0: return row.size();
            case 1: return row.signs();
            case 2: return row.left ? 1 : 0;
            default: return NONE;
        }
    }

    public int square(int line, int square, int what) {
        Square asked = squareAt(line, square);
        if (asked == null) {
            return NONE;
        }
        switch (what) {
            case 0: return asked.signs();
            case 1: return measured(asked).wideAt(0);
            case 2: return measured(asked).highAt(0);
            case 3: return asked.signs() - asked.outerSigns();
            case 4: return asked.links(0, ABOVE);
            case 5: return asked.links(asked.symbol(0) == ABOVE ? 1 : 0, BESIDE);
            case 6: return spelled(asked, NONE).brackets;
            case 7: return spelled(asked, NONE).deepest;
            default: return NONE;
        }
    }

    public int scale(int line, int square, int what) {
        Square asked = squareAt(line, square);
        return asked == null ? NONE : scaleOf(asked, what);
    }

    public int letter(int line, int square, int i) {
        Square asked = squareAt(line, square);
        int place = asked == null ? NONE : asked.placeOf(i);
        return asked == null || place == NONE ? NONE : letterOf(asked.symbol(place));
    }

    public int inside(int line, int square, int i) {
        Square asked = squareAt(line, square);
        int place = asked == null ? NONE : asked.placeOf(i);
        if (asked == null || place == NONE) {
            return NONE;
        }
        int holder = asked.holderOf(place);
        return holder == NONE ? NOTHING : asked.numberAt(holder);
    }

    public long box(int line, int square, int i, int side, int what) {
        Square asked = squareAt(line, square);
        int place = asked == null ? NONE : asked.placeOf(i);
        if (asked == null || place == NONE || side < 0 || side > 4) {
            return NONE;
        }
        Layout laid = laidOut(asked, line);
        long above = laid.boxAbove(place, side);
        long below = laid.boxBelow(place, side);
        return fraction(above, below, what);
    }

    public int at(int line, int square, int x, int y, int by) {
        Square asked = squareAt(line, square);
        if (asked == null || by < 1 || by > MOST_BY || !isPoint(x) || !isPoint(y)) {
            return NONE;
        }
        Layout laid = laidOut(asked, line);
        for (int place = asked.length() - 1; place >= 0; place--) {
            if (!isJoint(asked.symbol(place)) && laid.reaches(place, x, y, by)) {
                return asked.numberAt(place);
            }
        }
        return NOTHING;
    }

    public int column(int line, int square) {
        Line row = lineAt(line);
        if (row == null || !row.has(square)) {
            return NONE;
        }
        return row.left ? row.size() - 1 - square : square;
    }

    public long covered(int line, int square, int what) {
        Square asked = squareAt(line, square);
        if (asked == null) {
            return NONE;
        }
        long area = 0;
        for (int i = 0; i < asked.length(); i++) {
            int symbol = asked.symbol(i);
            if (!isJoint(symbol) && asked.holderOf(i) == NONE) {
                area += (long) table.wideOf(letterOf(symbol)) * table.highOf(letterOf(symbol));
            }
        }
        long span = spanOf(asked);
        return fraction(area, span * span, what);
    }

    public int smallest(int line, int square) {
        Square asked = squareAt(line, square);
        return asked == null ? NONE : laidOut(asked, line).smallestSigns(asked);
    }

    public int same(int line, int square, int other, int otherSquare) {
        Square one = squareAt(line, square);
        Square two = squareAt(other, otherSquare);
        if (one == null || two == null) {
            return NONE;
        }
        return one.isLike(two) ? 1 : 0;
    }

    public int tightest(int line) {
        Line row = lineAt(line);
        if (row == null) {
            return NONE;
        }
        int found = NONE;
        int greatest = 0;
        for (int k = 0; k < row.size(); k++) {
            int span = spanOf(row.get(k));
            if (span > greatest) {
                greatest = span;
                found = k;
            }
        }
        return found;
    }

    public int least(int line, int what) {
        Square found = squareAt(line, tightest(line));
        return found == null ? NONE : scaleOf(found, what);
    }

    public int ways(int line, int square) {
        Square asked = squareAt(line, square);
        return asked == null ? NONE : Arranger.waysOf(asked.outerSigns());
    }

    public int best(int line, int square, int what) {
        Square asked = squareAt(line, square);
        if (asked == null || what < 0 || what > 1) {
            return NONE;
        }
        Square found = bestOf(asked);
        return found == null ? NOTHING : scaleOf(found, what);
    }

    public int bestText(int line, int square, int i) {
        Square asked = squareAt(line, square);
        if (asked == null || i < NONE) {
            return NONE;
        }
        Square found = bestOf(asked);
        if (found == null) {
            return NOTHING;
        }
        return spelled(found, i).told();
    }

    public int joined(int line, int square, int what) {
        Square one = squareAt(line, square);
        Square next = squareBehind(line, square);
        if (one == null || next == null || what < 0 || what > 1) {
            return NONE;
        }
        Square both = bothJoined(one, next);
        return both == null ? NOTHING : scaleOf(both, what);
    }

    public int spell(int line, int square, int i) {
        Line row = lineAt(line);
        speller.begin(i);
        if (line == NONE) {
            speller.writeAll(table, now);
        } else if (row == null) {
            return NONE;
        } else if (square == NONE) {
            speller.writeLine(row);
        } else if (row.has(square)) {
            speller.writePart(row.get(square), 0, NONE);
        } else {
            return NONE;
        }
        return speller.told();
    }

    public int count(int what) {
        switch (what) {
            case 0: return now.lines.length;
            case 1: return now.squares();
            case 2: return now.signs();
            case 3: return table.told();
            case 4: return now.side;
            case 5: return now.gap;
            case 6: return acts;
            case 7: return reader.taped;
            case 8: return table.cores();
            default: return NONE;
        }
    }

    // ---- what the calls share

    private Line lineAt(int line) {
        return now.get(line);
    }

    private Square squareAt(int line, int square) {
        Line row = now.get(line);
        return row == null ? null : row.get(square);
    }

    private Square squareBehind(int line, int square) {
        Line row = now.get(line);
        return row == null || !row.has(square) ? null : row.get(square + 1);
    }

    private int timesOf(int letter) {
        int times = 0;
        for (int i = 0; i < now.lines.length; i++) {
            Line row = now.get(i);
            times += row == null ? 0 : row.timesOf(letter);
        }
        return times;
    }

    private boolean become(int line, int square, Square next) {
        Line row = lineAt(line);
        return row != null && replaceLine(line, row.with(square, next));
    }

    private boolean replaceLine(int line, Line next) {
        act(now.with(line, next));
        return true;
    }

    private void act(Moment next) {
        if (acts >= MOST_ACTS) {
            for (int i = 1; i < MOST_ACTS; i++) {
                past[i - 1] = past[i];
            }
            acts = MOST_ACTS - 1;
        }
        past[acts] = now;
        acts++;
        now = next;
    }

    private void forgetActs() {
        for (int i = 0; i < MOST_ACTS; i++) {
            past[i] = null;
        }
        acts = 0;
    }

    private Square slice(Square square, int from, int to) {
        draft.clear();
        draft.putAll(square, from, to);
        return draft.made();
    }

    /** Null where there are not two, or they hold too many signs for one square. */
    private Square bothJoined(Square one, Square next) {
        if (one == null || next == null || one.signs() + next.signs() > MOST_SIGNS) {
            return null;
        }
        draft.clear();
        draft.put(BESIDE);
        draft.putAll(one, 0, one.length());
        draft.putAll(next, 0, next.length());
        draft.makeNormal();
        return draft.made();
    }

    /** Null where there is no square, or too many of its signs are to be arranged. */
    private Square bestOf(Square square) {
        if (square == null || square.outerSigns() > MOST_ARRANGED) {
            return null;
        }
        if (!arranger.knows(square, now)) {
            arranger.find(square, table, now, draft);
        }
        return arranger.found;
    }

    private Layout measured(Square square) {
        layout.measure(square, table, now.gap);
        return layout;
    }

    private Layout laidOut(Square square, int line) {
        Line row = lineAt(line);
        layout.measure(square, table, now.gap);
        layout.place(square, table, now.side);
        if (row != null && row.left) {
            layout.mirrorAll(now.side);
        }
        return layout;
    }

    private Speller spelled(Square square, int i) {
        speller.begin(i);
        speller.writePart(square, 0, NONE);
        return speller;
    }

    /** The scale is SIDE by this; 0 where there is no square. */
    private int spanOf(Square square) {
        return square == null ? 0 : measured(square).span(now.side);
    }

    private int scaleOf(Square square, int what) {
        return (int) fraction(now.side, spanOf(square), what);
    }

    private static boolean isPoint(int x) {
        return x >= -MOST_POINT && x <= MOST_POINT;
    }

    private static long fraction(long above, long below, int what) {
        long by = greatestDivisor(above, below);
        if (by <= 0 || what < 0 || what > 1) {
            return NONE;
        }
        return what == 0 ? above / by : below / by;
    }

    private static long greatestDivisor(long a, long b) {
        long one = Math.abs(a);
        long other = Math.abs(b);
        for (int step = 0; step < 100 && other > 0; step++) {
            long rest = one % other;
            one = other;
            other = rest;
        }
        return one;
    }

    private static boolean isJoint(int symbol) {
        return symbol == BESIDE || symbol == ABOVE;
    }

    private static boolean holds(int symbol) {
        return symbol >= HOLDS && symbol < HOLDS + LETTERS;
    }

    private static int letterOf(int symbol) {
        return holds(symbol) ? symbol - HOLDS : symbol;
    }

    /** Where the part that begins at a place ends: a joint wants one part more, a sign that holds none wants one less. */
    private static int endOfPart(byte[] code, int length, int from) {
        int due = 1;
        int i = Math.max(0, from);
        while (due > 0 && i < length && i < code.length) {
            int symbol = code[i];
            if (isJoint(symbol)) {
                due++;
            } else if (!holds(symbol)) {
                due--;
            }
            i++;
        }
        return i;
    }

    /** The signs that can be used, by their letters' numbers. */
    private static final class Table {
        private final byte[] wide = new byte[LETTERS];
        private final byte[] high = new byte[LETTERS];
        private final byte[] coreWide = new byte[LETTERS];
        private final byte[] coreHigh = new byte[LETTERS];

        boolean has(int letter) {
            return sizeIn(wide, letter) > 0;
        }

        boolean hasCore(int letter) {
            return sizeIn(coreWide, letter) > 0;
        }

        int wideOf(int letter) {
            return sizeIn(wide, letter);
        }

        int highOf(int letter) {
            return sizeIn(high, letter);
        }

        int coreWideOf(int letter) {
            return sizeIn(coreWide, letter);
        }

        int coreHighOf(int letter) {
            return sizeIn(coreHigh, letter);
        }

        void tell(int letter, int signWide, int signHigh) {
            if (letter >= 0 && letter < LETTERS) {
                wide[letter] = (byte) signWide;
                high[letter] = (byte) signHigh;
            }
        }

        void tellCore(int letter, int wideOfCore, int highOfCore) {
            if (letter >= 0 && letter < LETTERS) {
                coreWide[letter] = (byte) wideOfCore;
                coreHigh[letter] = (byte) highOfCore;
            }
        }

        int told() {
            return filled(wide);
        }

        int cores() {
            return filled(coreWide);
        }

        private static int filled(byte[] sizes) {
            int n = 0;
            for (byte size : sizes) {
                n += size > 0 ? 1 : 0;
            }
            return n;
        }

        private static int sizeIn(byte[] sizes, int letter) {
            return letter >= 0 && letter < sizes.length ? sizes[letter] : 0;
        }
    }

    /**
     * A square's group, each joint written ahead of the two parts that it joins, the second one being all the rest.
     * It is normal just if no joint stands right behind its like. Never changed, so that moments can share it.
     */
    private static final class Square {
        private final byte[] code;

        Square(byte[] code) {
            this.code = code;
        }

        int length() {
            return code.length;
        }

        int symbol(int i) {
            return i >= 0 && i < code.length ? code[i] : NONE;
        }

        int endOf(int place) {
            return endOfPart(code, code.length, place);
        }

        int signs() {
            return numberAt(code.length);
        }

        /** How many signs stand ahead of a place: the number of the sign there. */
        int numberAt(int place) {
            int number = 0;
            for (int i = 0; i < place && i < code.length; i++) {
                number += isJoint(code[i]) ? 0 : 1;
            }
            return number;
        }

        int placeOf(int number) {
            int left = number;
            for (int i = 0; i < code.length; i++) {
                if (isJoint(code[i])) {
                    continue;
                }
                if (left == 0) {
                    return i;
                }
                left--;
            }
            return NONE;
        }

        /** The place of the sign in which a place is inside at once. */
        int holderOf(int place) {
            for (int i = Math.min(place, code.length) - 1; i >= 0; i--) {
                if (holds(code[i]) && endOf(i) > place) {
                    return i;
                }
            }
            return NONE;
        }

        int outerSigns() {
            int n = 0;
            int i = 0;
            while (i < code.length) {
                boolean joint = isJoint(code[i]);
                n += joint ? 0 : 1;
                i = joint ? i + 1 : Math.max(i + 1, endOf(i));
            }
            return n;
        }

        /** How many a joint and its likes behind it join, from a place on. */
        int links(int from, int joint) {
            int n = 1;
            int i = Math.max(0, from);
            while (i < code.length && code[i] == joint) {
                n++;
                i = Math.max(i + 1, endOf(i + 1));
            }
            return n;
        }

        int linkPlace(int from, int joint, int k) {
            int i = Math.max(0, from);
            for (int n = 0; n < k && i < code.length && code[i] == joint; n++) {
                i = endOf(i + 1);
            }
            return i < code.length && code[i] == joint ? i + 1 : i;
        }

        int timesOf(int letter) {
            int times = 0;
            for (byte symbol : code) {
                times += letterOf(symbol) == letter ? 1 : 0;
            }
            return times;
        }

        boolean isLike(Square other) {
            if (other == null || other.code.length != code.length) {
                return false;
            }
            for (int i = 0; i < code.length && i < other.code.length; i++) {
                if (code[i] != other.code[i]) {
                    return false;
                }
            }
            return true;
        }
    }

    /** Where a square's code is put together. */
    private static final class Draft {
        private final byte[] code = new byte[ROOM];
        private int length = 0;

        void clear() {
            length = 0;
        }

        void take(Square square) {
            clear();
            putAll(square, 0, square.length());
        }

        void put(int symbol) {
            putAhead(length, symbol);
        }

        void putAhead(int place, int symbol) {
            if (place < 0 || place > length || length >= ROOM) {
                return;
            }
            for (int i = length; i > place; i--) {
                code[i] = code[i - 1];
            }
            code[place] = (byte) symbol;
            length++;
        }

        void putAll(Square square, int from, int to) {
            for (int i = from; i < to && i < square.length(); i++) {
                put(square.symbol(i));
            }
        }

        void change(int place, int symbol) {
            if (place >= 0 && place < length) {
                code[place] = (byte) symbol;
            }
        }

        void makeNormal() {
            for (int i = 0; i + 1 < length; i++) {
                for (int n = 0; n < length && isJoint(code[i]) && code[i + 1] == code[i]; n++) {
                    openBrackets(i);
                }
            }
        }

        /** A joint right behind its like stands for brackets that need not be: it goes behind the first part it joins. */
        private void openBrackets(int place) {
            byte joint = code[place];
            int end = endOfPart(code, length, place + 2);
            for (int i = place + 2; i < end && i < length; i++) {
                code[i - 1] = code[i];
            }
            if (end > 0 && end <= length) {
                code[end - 1] = joint;
            }
        }

        Square made() {
            return new Square(Arrays.copyOf(code, length));
        }
    }

    /** A line of squares; never changed, so that moments can share it. */
    private static final class Line {
        private final Square[] squares;
        private final boolean left;

        Line(Square[] squares, boolean left) {
            this.squares = squares;
            this.left = left;
        }

        int size() {
            return squares.length;
        }

        boolean has(int square) {
            return square >= 0 && square < squares.length;
        }

        Square get(int square) {
            return has(square) ? squares[square] : null;
        }

        int signs() {
            int n = 0;
            for (Square square : squares) {
                n += square == null ? 0 : square.signs();
            }
            return n;
        }

        int timesOf(int letter) {
            int n = 0;
            for (Square square : squares) {
                n += square == null ? 0 : square.timesOf(letter);
            }
            return n;
        }

        Line with(int square, Square next) {
            Square[] copy = new Square[squares.length];
            for (int k = 0; k < copy.length; k++) {
                copy[k] = k == square ? next : get(k);
            }
            return new Line(copy, left);
        }

        Line withNext(int square, Square first, Square next) {
            Square[] copy = new Square[squares.length + 1];
            for (int k = 0; k < copy.length; k++) {
                copy[k] = k == square ? first : k == square + 1 ? next : get(k < square ? k : k - 1);
            }
            return new Line(copy, left);
        }

        Line withoutNext(int square, Square both) {
            Square[] copy = new Square[Math.max(0, squares.length - 1)];
            for (int k = 0; k < copy.length; k++) {
                copy[k] = k == square ? both : get(k < square ? k : k + 1);
            }
            return new Line(copy, left);
        }

        Line moved(int square, int to) {
            Square[] copy = new Square[squares.length];
            int from = 0;
            for (int k = 0; k < copy.length; k++) {
                from += from == square ? 1 : 0;
                copy[k] = get(k == to ? square : from);
                from += k == to ? 0 : 1;
            }
            return new Line(copy, left);
        }
    }

    /** All that acts change, as it was at one time; never changed itself. */
    private static final class Moment {
        private final Line[] lines;
        private final int side;
        private final int gap;

        Moment(Line[] lines, int side, int gap) {
            this.lines = lines;
            this.side = side;
            this.gap = gap;
        }

        Line get(int line) {
            return line >= 0 && line < lines.length ? lines[line] : null;
        }

        int squares() {
            int n = 0;
            for (Line line : lines) {
                n += line == null ? 0 : line.size();
            }
            return n;
        }

        int signs() {
            int n = 0;
            for (Line line : lines) {
                n += line == null ? 0 : line.signs();
            }
            return n;
        }

        Moment with(int line, Line next) {
            Line[] copy = new Line[lines.length];
            for (int k = 0; k < copy.length; k++) {
                copy[k] = k == line ? next : get(k);
            }
            return new Moment(copy, side, gap);
        }
    }

    /** Has the tape, and reads it as a text; where it cannot go on, it stands at the fault. */
    private static final class Reader {
        private final byte[] tape = new byte[MOST_TAPE];
        private int taped = 0;
        private final Draft draft = new Draft();
        private final Square[] squaresRead = new Square[MOST_SQUARES];
        private final Line[] linesRead = new Line[MOST_LINES];
        private int length = 0;
        private int at = 0;
        private Table table = new Table();
        private int lines = 0;
        private int side = FIRST_SIDE;
        private int gap = FIRST_GAP;
        private int signs = 0;

        void takeFour(int bytes) {
            for (int shift = 24; shift >= 0 && taped >= 0 && taped < tape.length; shift -= 8) {
                tape[taped] = (byte) (bytes >> shift);
                taped++;
            }
        }

        void begin() {
            length = taped;
            taped = 0;
            at = 0;
            table = new Table();
            lines = 0;
            side = FIRST_SIDE;
            gap = FIRST_GAP;
        }

        Moment told() {
            Line[] copy = new Line[Math.max(0, Math.min(lines, linesRead.length))];
            for (int k = 0; k < copy.length && k < linesRead.length; k++) {
                copy[k] = linesRead[k];
            }
            return new Moment(copy, side, gap);
        }

        boolean readAll() {
            for (int n = 0; n <= length; n++) {
                if (next() == NONE) {
                    return true;
                }
                boolean good;
                if (takeWord("side")) {
                    side = readNumber(1, MOST_SIDE);
                    good = side != NONE;
                } else if (takeWord("gap")) {
                    gap = readNumber(0, MOST_GAP);
                    good = gap != NONE;
                } else if (takeWord("sign")) {
                    good = readTold();
                } else {
                    good = lines < MOST_LINES && takeWord("line") && readLine();
                }
                if (!good || !takeMark(';')) {
                    return false;
                }
            }
            return false;
        }

        private boolean readTold() {
            int letter = nextLetter();
            if (letter == NONE || table.has(letter) || table.told() >= MOST_TOLD) {
                return false;
            }
            at++;
            int wide = readNumber(1, MOST_SIZE);
            int high = wide == NONE ? NONE : readNumber(1, MOST_SIZE);
            if (high == NONE) {
                return false;
            }
            table.tell(letter, wide, high);
            return !takeWord("core") || readCore(letter, wide, high);
        }

        private boolean readCore(int letter, int wide, int high) {
            int coreWide = readNumber(1, wide);
            int coreHigh = coreWide == NONE ? NONE : readNumber(1, high);
            if (coreHigh == NONE) {
                return false;
            }
            table.tellCore(letter, coreWide, coreHigh);
            return true;
        }

        private boolean readLine() {
            boolean left = takeWord("left");
            for (int k = 0; k < squaresRead.length; k++) {
                draft.clear();
                signs = 0;
                if (!readGroup(0, 0)) {
                    return false;
                }
                draft.makeNormal();
                squaresRead[k] = draft.made();
                if (next() != '-') {
                    return keepLine(k + 1, left);
                }
                if (k + 1 < squaresRead.length) {
                    at++;
                }
            }
            return false;
        }

        private boolean keepLine(int squares, boolean left) {
            Square[] copy = new Square[Math.max(0, squares)];
            for (int k = 0; k < copy.length && k < squaresRead.length; k++) {
                copy[k] = squaresRead[k];
            }
            if (lines >= linesRead.length) {
                return false;
            }
            linesRead[lines] = new Line(copy, left);
            lines++;
            return true;
        }

        private boolean readGroup(int open, int coresOpen) {
            int row = draft.length;
            int part = row;
            for (int n = 0; n <= MOST_SIGNS; n++) {
                if (!readPart(open, coresOpen)) {
                    return false;
                }
                if (takeMark('*')) {
                    draft.putAhead(part, BESIDE);
                } else if (takeMark(':')) {
                    draft.putAhead(row, ABOVE);
                    row = draft.length;
                } else {
                    return true;
                }
                part = draft.length;
            }
            return false;
        }

        private boolean readPart(int open, int coresOpen) {
            if (next() == '(') {
                return takeOpening(open < MOST_OPEN) && readGroup(open + 1, coresOpen) && takeMark(')');
            }
            int letter = nextLetter();
            if (!table.has(letter) || signs >= MOST_SIGNS) {
                return false;
            }
            at++;
            signs++;
            int place = draft.length;
            draft.put(letter);
            if (next() != '<') {
                return true;
            }
            draft.change(place, letter + HOLDS);
            return takeOpening(table.hasCore(letter) && open < MOST_OPEN && coresOpen < MOST_CORES_OPEN)
                    && readGroup(open + 1, coresOpen + 1) && takeMark('>');
        }

        private boolean takeOpening(boolean allowed) {
            at += allowed ? 1 : 0;
            return allowed;
        }

        /** The byte behind the blanks; NONE at the end. */
        private int next() {
            while (at < length && byteAt(at) == ' ') {
                at++;
            }
            return byteAt(at);
        }

        private int byteAt(int i) {
            return i >= 0 && i < length && i < tape.length ? tape[i] & 255 : NONE;
        }

        private boolean takeMark(int mark) {
            if (next() != mark) {
                return false;
            }
            at++;
            return true;
        }

        private boolean takeWord(String word) {
            next();
            if (isGlued() || wordEnd() - at != word.length()) {
                return false;
            }
            for (int i = 0; i < word.length(); i++) {
                if (byteAt(at + i) != word.charAt(i)) {
                    return false;
                }
            }
            at += word.length();
            return true;
        }

        /** The number of the letter that is a word of its own here; NONE where there is no such word. */
        private int nextLetter() {
            int first = next();
            return isGlued() || wordEnd() - at != 1 ? NONE : first - 'a';
        }

        private int readNumber(int low, int high) {
            next();
            int end = at;
            int number = 0;
            while (end < length && isDigit(byteAt(end))) {
                number = Math.min(1000, number * 10 + byteAt(end) - '0');
                end++;
            }
            if (isGlued() || end == at || end - at > 2 || number < low || number > high) {
                return NONE;
            }
            at = end;
            return number;
        }

        private int wordEnd() {
            int end = at;
            while (end < length && isSmallLetter(byteAt(end))) {
                end++;
            }
            return end;
        }

        /** Whether a word or number stands right ahead, without the blank that is due. */
        private boolean isGlued() {
            return isSmallLetter(byteAt(at - 1)) || isDigit(byteAt(at - 1));
        }

        private static boolean isSmallLetter(int c) {
            return c >= 'a' && c <= 'z';
        }

        private static boolean isDigit(int c) {
            return c >= '0' && c <= '9';
        }
    }

    /** Writes texts, but keeps just what is asked of them: how long, the one sign that is wanted, how deep. */
    private static final class Speller {
        private int wanted;
        private int found;
        private int length;
        private boolean behindWord;
        private int brackets;
        private int open;
        private int deepest;
        private int coresOpen;
        private int deepestCores;

        void begin(int i) {
            wanted = i;
            found = NONE;
            length = 0;
            behindWord = false;
            brackets = 0;
            open = 0;
            deepest = 0;
            coresOpen = 0;
            deepestCores = 0;
        }

        int told() {
            return wanted == NONE ? length : found;
        }

        void writeAll(Table table, Moment moment) {
            writeWord("side");
            writeNumber(moment.side);
            writeMark(';');
            writeWord("gap");
            writeNumber(moment.gap);
            writeMark(';');
            for (int letter = 0; letter < LETTERS; letter++) {
                if (table.has(letter)) {
                    writeTold(table, letter);
                }
            }
            for (int k = 0; k < moment.lines.length; k++) {
                writeLine(moment.get(k));
            }
        }

        private void writeTold(Table table, int letter) {
            writeWord("sign");
            writeLetter(letter);
            writeNumber(table.wideOf(letter));
            writeNumber(table.highOf(letter));
            if (table.hasCore(letter)) {
                writeWord("core");
                writeNumber(table.coreWideOf(letter));
                writeNumber(table.coreHighOf(letter));
            }
            writeMark(';');
        }

        void writeLine(Line line) {
            if (line == null) {
                return;
            }
            writeWord("line");
            if (line.left) {
                writeWord("left");
            }
            for (int k = 0; k < line.size(); k++) {
                if (k > 0) {
                    writeMark('-');
                }
                writePart(line.get(k), 0, NONE);
            }
            writeMark(';');
        }

        /** Answers where the next part begins. Each call within goes on at a later place, so a square's length bounds the depth. */
        private int writePart(Square square, int place, int outer) {
            if (square == null || place < 0 || place >= square.length()) {
                return ROOM;
            }
            int symbol = square.symbol(place);
            if (!isJoint(symbol)) {
                return writeSign(square, place);
            }
            boolean bracketed = symbol == ABOVE && outer == BESIDE;
            if (bracketed) {
                brackets++;
                writeOpening('(');
            }
            int second = writePart(square, place + 1, symbol);
            writeMark(symbol == ABOVE ? ':' : '*');
            int end = writePart(square, second, symbol);
            if (bracketed) {
                writeClosing(')');
            }
            return end;
        }

        private int writeSign(Square square, int place) {
            int symbol = square.symbol(place);
            writeLetter(letterOf(symbol));
            if (!holds(symbol)) {
                return place + 1;
            }
            coresOpen++;
            deepestCores = Math.max(deepestCores, coresOpen);
            writeOpening('<');
            int end = writePart(square, place + 1, NONE);
            writeClosing('>');
            coresOpen--;
            return end;
        }

        private void writeOpening(int mark) {
            open++;
            deepest = Math.max(deepest, open);
            writeMark(mark);
        }

        private void writeClosing(int mark) {
            open--;
            writeMark(mark);
        }

        private void writeMark(int mark) {
            put(mark);
            behindWord = false;
        }

        private void writeWord(String word) {
            beginWord();
            for (int i = 0; i < word.length(); i++) {
                put(word.charAt(i));
            }
        }

        private void writeLetter(int letter) {
            beginWord();
            put('a' + letter);
        }

        private void writeNumber(int number) {
            beginWord();
            if (number >= 10) {
                put('0' + number / 10);
            }
            put('0' + number % 10);
        }

        private void beginWord() {
            if (behindWord) {
                put(' ');
            }
            behindWord = true;
        }

        private void put(int c) {
            if (length == wanted) {
                found = c;
            }
            length++;
        }
    }

    /**
     * Where the parts of a square lie. All middles are told in halves of 1 by a part's own divisor, so that
     * whole numbers are enough: inside a sign the divisor only gets a further factor.
     */
    private static final class Layout {
        private final int[] end = new int[ROOM];
        private final int[] wide = new int[ROOM];
        private final int[] high = new int[ROOM];
        private final long[] scale = new long[ROOM];
        private final long[] divisor = new long[ROOM];
        private final long[] middleX = new long[ROOM];
        private final long[] middleY = new long[ROOM];
        private int length = 0;

        int wideAt(int place) {
            return place >= 0 && place < length ? wide[place] : 0;
        }

        int highAt(int place) {
            return place >= 0 && place < length ? high[place] : 0;
        }

        int span(int side) {
            return Math.max(side, Math.max(wideAt(0), highAt(0)));
        }

        void measure(Square square, Table table, int gap) {
            length = Math.min(square.length(), ROOM);
            for (int i = length - 1; i >= 0; i--) {
                int symbol = square.symbol(i);
                if (isJoint(symbol)) {
                    measureBoth(i, symbol, gap);
                } else {
                    wide[i] = table.wideOf(letterOf(symbol));
                    high[i] = table.highOf(letterOf(symbol));
                    end[i] = holds(symbol) ? endAt(i + 1) : i + 1;
                }
            }
        }

        private void measureBoth(int i, int joint, int gap) {
            int a = i + 1;
            int b = endAt(a);
            boolean beside = joint == BESIDE;
            end[i] = endAt(b);
            wide[i] = beside ? wideAt(a) + gap + wideAt(b) : Math.max(wideAt(a), wideAt(b));
            high[i] = beside ? Math.max(highAt(a), highAt(b)) : highAt(a) + gap + highAt(b);
        }

        private int endAt(int place) {
            return place >= 0 && place < length ? end[place] : length;
        }

        /** A group's middle is that of the square or core around it, so parts are placed by their middles. */
        void place(Square square, Table table, int side) {
            long span = span(side);
            lay(0, side, span, side * span, side * span);
            for (int i = 0; i < length; i++) {
                int symbol = square.symbol(i);
                if (isJoint(symbol)) {
                    placeBoth(i, symbol);
                } else if (holds(symbol)) {
                    placeInside(i, table.coreWideOf(letterOf(symbol)), table.coreHighOf(letterOf(symbol)));
                }
            }
        }

        private void placeBoth(int i, int joint) {
            int a = i + 1;
            int b = endAt(a);
            long x = joint == BESIDE ? scale[i] : 0;
            long y = joint == BESIDE ? 0 : scale[i];
            lay(a, scale[i], divisor[i],
                    middleX[i] + x * (wideAt(a) - wide[i]), middleY[i] + y * (highAt(a) - high[i]));
            lay(b, scale[i], divisor[i],
                    middleX[i] + x * (wide[i] - wideAt(b)), middleY[i] + y * (high[i] - highAt(b)));
        }

        private void placeInside(int i, int coreWide, int coreHigh) {
            int a = i + 1;
            long above = 1;
            long below = 1;
            if (coreWide < wideAt(a)) {
                above = coreWide;
                below = wideAt(a);
            }
            if (coreHigh * below < above * highAt(a)) {
                above = coreHigh;
                below = highAt(a);
            }
            lay(a, scale[i] * above, divisor[i] * below, middleX[i] * below, middleY[i] * below);
        }

        private void lay(int i, long scaled, long by, long x, long y) {
            if (i >= 0 && i < length) {
                scale[i] = scaled;
                divisor[i] = by;
                middleX[i] = x;
                middleY[i] = y;
            }
        }

        void mirrorAll(int side) {
            for (int i = 0; i < length; i++) {
                middleX[i] = 2 * side * divisor[i] - middleX[i];
            }
        }

        long boxAbove(int place, int which) {
            if (place < 0 || place >= length) {
                return 0;
            }
            switch (which) {
                case 0: return middleX[place] - scale[place] * wide[place];
                case 1: return middleY[place] - scale[place] * high[place];
                case 2: return scale[place] * wide[place];
                case 3: return scale[place] * high[place];
                default: return scale[place];
            }
        }

        long boxBelow(int place, int which) {
            if (place < 0 || place >= length) {
                return 1;
            }
            return which < 2 ? 2 * divisor[place] : divisor[place];
        }

        boolean reaches(int place, int x, int y, int by) {
            if (place < 0 || place >= length) {
                return false;
            }
            long acrossX = Math.abs(2 * divisor[place] * x - middleX[place] * by);
            long acrossY = Math.abs(2 * divisor[place] * y - middleY[place] * by);
            return acrossX <= scale[place] * wide[place] * by && acrossY <= scale[place] * high[place] * by;
        }

        int smallestSigns(Square square) {
            int n = 0;
            int least = NONE;
            for (int i = 0; i < length; i++) {
                if (isJoint(square.symbol(i))) {
                    continue;
                }
                int than = least == NONE ? -1 : compareScales(i, least);
                if (than < 0) {
                    least = i;
                    n = 0;
                }
                n += than <= 0 ? 1 : 0;
            }
            return n;
        }

        private int compareScales(int one, int other) {
            if (one < 0 || one >= length || other < 0 || other >= length) {
                return 0;
            }
            return Long.compare(scale[one] * divisor[other], scale[other] * divisor[one]);
        }
    }

    /** Finds the best arrangement of a square's outer signs out of all, those of fewer neighbours being made first. */
    private static final class Arranger {
        /** How many there are, by the number of signs. */
        private static final int[] WAYS = {0, 1, 2, 6, 22, 90, 394};
        /** Those of all neighbours among six: 6 * 1 + 5 * 2 + 4 * 6 + 3 * 22 + 2 * 90 + 394. */
        private static final int MOST_FORMS = 680;
        private static final int SPANS = MOST_ARRANGED + 1;
        private static final int ALONE = 0;

        /** A form's text as a number: one digit of three bits a sign, in the order of their bytes. */
        private static final long OPENING = 1;
        private static final long CLOSING = 2;
        private static final long STAR = 3;
        private static final long COLON = 4;
        private static final long ANY_SIGN = 5;

        private final int[] kind = new int[MOST_FORMS];
        /** The two that a form joins; of a sign alone, the first is its place in the square. */
        private final int[] first = new int[MOST_FORMS];
        private final int[] second = new int[MOST_FORMS];
        private final int[] wide = new int[MOST_FORMS];
        private final int[] high = new int[MOST_FORMS];
        private final int[] digits = new int[MOST_FORMS];
        private final long[] text = new long[MOST_FORMS];
        private int forms = 0;
        private final int[] spanFrom = new int[SPANS * SPANS];
        private final int[] spanTo = new int[SPANS * SPANS];

        private Square known = null;
        private int knownSide = 0;
        private int knownGap = 0;
        private Square found = null;

        static int waysOf(int signs) {
            return signs >= 0 && signs < WAYS.length ? WAYS[signs] : NOTHING;
        }

        boolean knows(Square square, Moment moment) {
            return known == square && knownSide == moment.side && knownGap == moment.gap;
        }

        void find(Square square, Table table, Moment moment, Draft draft) {
            int signs = makeSigns(square, table);
            for (int n = 2; n <= signs; n++) {
                for (int from = 0; from + n <= signs; from++) {
                    makeSpan(from, n, moment.gap);
                }
            }
            draft.clear();
            write(bestForm(spanOfSigns(0, signs), moment.side), square, draft, 0);
            found = draft.made();
            known = square;
            knownSide = moment.side;
            knownGap = moment.gap;
        }

        private int makeSigns(Square square, Table table) {
            forms = 0;
            int i = 0;
            while (i < square.length() && forms < MOST_ARRANGED) {
                int symbol = square.symbol(i);
                if (isJoint(symbol)) {
                    i++;
                    continue;
                }
                int span = spanOfSigns(forms, 1);
                spanFrom[span] = forms;
                keep(ALONE, i, i);
                keepSize(table.wideOf(letterOf(symbol)), table.highOf(letterOf(symbol)));
                keepText(ANY_SIGN, 1);
                forms++;
                spanTo[span] = forms;
                i = Math.max(i + 1, square.endOf(i));
            }
            return forms;
        }

        private static int spanOfSigns(int from, int n) {
            return Math.max(0, Math.min(SPANS * SPANS - 1, from * SPANS + n));
        }

        private void makeSpan(int from, int n, int gap) {
            int span = spanOfSigns(from, n);
            spanFrom[span] = forms;
            for (int cut = 1; cut < n; cut++) {
                makePairs(spanOfSigns(from, cut), spanOfSigns(from + cut, n - cut), gap);
            }
            spanTo[span] = forms;
        }

        /** The first of two is never of the kind that joins them: so each normal group is made just once. */
        private void makePairs(int firsts, int seconds, int gap) {
            for (int a = spanFrom[firsts]; a < spanTo[firsts]; a++) {
                for (int b = spanFrom[seconds]; b < spanTo[seconds]; b++) {
                    if (!isForm(a) || !isForm(b)) {
                        continue;
                    }
                    if (kind[a] != BESIDE) {
                        makeBeside(a, b, gap);
                    }
                    if (kind[a] != ABOVE) {
                        makeAbove(a, b, gap);
                    }
                }
            }
        }

        private boolean isForm(int form) {
            return form >= 0 && form < forms && form < MOST_FORMS;
        }

        private void makeBeside(int a, int b, int gap) {
            if (forms >= MOST_FORMS) {
                return;
            }
            keep(BESIDE, a, b);
            keepSize(wide[a] + gap + wide[b], Math.max(high[a], high[b]));
            keepText(((partText(a) * 8 + STAR) << (3 * partDigits(b))) + partText(b),
                    partDigits(a) + 1 + partDigits(b));
            forms++;
        }

        private void makeAbove(int a, int b, int gap) {
            if (forms >= MOST_FORMS) {
                return;
            }
            keep(ABOVE, a, b);
            keepSize(Math.max(wide[a], wide[b]), high[a] + gap + high[b]);
            keepText(((text[a] * 8 + COLON) << (3 * digits[b])) + text[b], digits[a] + 1 + digits[b]);
            forms++;
        }

        private void keep(int ofKind, int one, int other) {
            if (forms < MOST_FORMS) {
                kind[forms] = ofKind;
                first[forms] = one;
                second[forms] = other;
            }
        }

        private void keepSize(int w, int h) {
            if (forms < MOST_FORMS) {
                wide[forms] = w;
                high[forms] = h;
            }
        }

        private void keepText(long as, int n) {
            if (forms < MOST_FORMS) {
                text[forms] = as;
                digits[forms] = n;
            }
        }

        private int partDigits(int form) {
            return kind[form] == ABOVE ? digits[form] + 2 : digits[form];
        }

        private long partText(int form) {
            return kind[form] == ABOVE ? ((OPENING << (3 * digits[form])) + text[form]) * 8 + CLOSING : text[form];
        }

        private int bestForm(int span, int side) {
            int best = spanFrom[span];
            for (int form = best + 1; form < spanTo[span]; form++) {
                if (isForm(form) && isBetter(form, best, side)) {
                    best = form;
                }
            }
            return best;
        }

        /** Of forms of the same signs one with fewer brackets has a shorter text. */
        private boolean isBetter(int one, int other, int side) {
            int spanOne = Math.max(side, Math.max(wide[one], high[one]));
            int spanOther = Math.max(side, Math.max(wide[other], high[other]));
            if (spanOne != spanOther) {
                return spanOne < spanOther;
            }
            if (digits[one] != digits[other]) {
                return digits[one] < digits[other];
            }
            return text[one] < text[other];
        }

        private void write(int form, Square square, Draft draft, int depth) {
            if (!isForm(form) || depth > MOST_ARRANGED) {
                return;
            }
            if (kind[form] == ALONE) {
                draft.putAll(square, first[form], square.endOf(first[form]));
                return;
            }
            draft.put(kind[form]);
            write(first[form], square, draft, depth + 1);
            write(second[form], square, draft, depth + 1);
        }
    }
}
