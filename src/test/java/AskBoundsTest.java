import java.util.function.ToLongFunction;

/** Promises 18 to 37, and what 'Terms' says of sizes, SCALE, PLACES, COVERED, FRACTIONS and ARRANGEMENTS: at each bound, and beyond. */
public final class AskBoundsTest {
    private static final Told TOLD = new Told();
    private static final int NONE = SignSquares.NONE;
    private static final int NOTHING = -2;
    private static final String SIGNS = "sign a 4 6;sign b 3 2;sign c 8 8 core 6 4;";
    /** As great as can be: ten signs of 12 by 12, the greatest gaps between. */
    private static final String GREAT = "side 24;gap 3;sign m 12 12 core 12 12;";
    private static final Twins TWINS = new Twins(TOLD, AskBoundsTest::base);

    public static void main(String[] args) {
        sign();
        signHowOften();
        line();
        squareBeyond();
        squareAtBounds();
        naturalSize();
        scaleBeyond();
        scaleAtBounds();
        letterAndInside();
        boxBeyond();
        boxInTheMiddle();
        boxAtBounds();
        boxMirrored();
        boxInside();
        boxScaledInside();
        atBeyond();
        atEdges();
        atTheLastOne();
        atMirrored();
        column();
        coveredBeyond();
        coveredAtBounds();
        smallest();
        same();
        tightest();
        least();
        ways();
        bestBeyond();
        bestAtBounds();
        bestThatFillsTheSquare();
        bestAgain();
        bestOfSeveral();
        bestText();
        joined();
        spellBeyond();
        spellAtBounds();
        count();
        newObject();
        TOLD.end();
    }

    private static SignSquares base() {
        SignSquares x = Told.of("side 13;gap 2;" + SIGNS + "sign z 5 5;line a*b-c<a:b>-a;line left b*b*b*a-(a:b)*c-b;");
        x.side(20);
        x.mirror(0);
        x.gap(0);
        Told.tape(x, "side 7;gap 3;");
        return x;
    }

    private static SignSquares lineOf(String line) {
        return Told.of(SIGNS + "line " + line + ";");
    }

    private static String row(String s, String mark, int n) {
        return s + (mark + s).repeat(n - 1);
    }

    private static void due(String what, long got, long want) {
        TOLD.due(what, got, want);
    }

    /** Asking changes nothing, whatever is answered. */
    private static void dueAsked(String what, ToLongFunction<SignSquares> call, long want) {
        TWINS.dueAnswer(what, call, want);
    }

    private static void dueFraction(String what, long above, long below, long wantAbove, long wantBelow) {
        due(what + ", above", above, wantAbove);
        due(what + ", below", below, wantBelow);
    }

    private interface OnSquare {
        long ask(SignSquares x, int line, int square);
    }

    /** "No such SQUARE": two lines there are, three squares in each. */
    private static void dueNoneBeyond(String asked, OnSquare call) {
        for (int wrong : Twins.beyond(2)) {
            dueAsked(asked + " of line " + wrong, x -> call.ask(x, wrong, 0), NONE);
        }
        for (int wrong : Twins.beyond(3)) {
            dueAsked(asked + " of square " + wrong, x -> call.ask(x, 0, wrong), NONE);
            dueAsked(asked + " of square " + wrong + " of the last line", x -> call.ask(x, 1, wrong), NONE);
        }
        TOLD.due(asked + " of the last square", call.ask(base(), 1, 1) != NONE, true);
    }

    // ---- 18: sign

    private static void sign() {
        int[] told = {4, 6, 0, 0, 5};
        int[] cored = {8, 8, 6, 4, 2};
        int[] last = {5, 5, 0, 0, 0};
        for (int what = 0; what < 5; what++) {
            int w = what;
            dueAsked("sign a, what " + w, x -> x.sign(0, w), told[w]);
            dueAsked("sign c, what " + w, x -> x.sign(2, w), cored[w]);
            dueAsked("sign z, what " + w, x -> x.sign(25, w), last[w]);
            for (int letter = 3; letter < 25; letter++) {
                due("sign " + letter + " is not told", base().sign(letter, what), NOTHING);
            }
            for (int letter : Twins.beyond(26)) {
                dueAsked("no letter " + letter, x -> x.sign(letter, w), NONE);
            }
        }
        for (int what : Twins.beyond(5)) {
            dueAsked("sign a, what " + what, x -> x.sign(0, what), NONE);
            dueAsked("both could be told: sign d, what " + what, x -> x.sign(3, what), NONE);
            dueAsked("no letter, what " + what, x -> x.sign(26, what), NONE);
        }
        SignSquares x = Told.of("sign a 1 12 core 1 12;sign b 12 1 core 12 1;");
        int[] a = {1, 12, 1, 12, 0};
        int[] b = {12, 1, 12, 1, 0};
        for (int what = 0; what < 5; what++) {
            due("the least and greatest, " + what, x.sign(0, what), a[what]);
            due("the greatest and least, " + what, x.sign(1, what), b[what]);
        }
    }

    private static void signHowOften() {
        String eighty = row(row("m", "*", 10), "-", 8);
        SignSquares x = Told.of("sign m 1 1;sign n 1 1;line " + eighty + ";line " + eighty + ";");
        due("160 of it", x.sign('m' - 'a', 4), 160);
        due("none of it", x.sign('n' - 'a', 4), 0);
        x.exchange(1, 7, 9, 'n' - 'a');
        due("159 of it", x.sign('m' - 'a', 4), 159);
        due("one of it", x.sign('n' - 'a', 4), 1);
        due("a full square has all ten", x.square(1, 7, 0), 10);
        due("inside ones, too", lineOf("c<c<c<a>>>").sign(2, 4), 3);
    }

    // ---- 19: line

    private static void line() {
        int[] first = {3, 6, 1};
        int[] last = {3, 8, 1};
        for (int what = 0; what < 3; what++) {
            int w = what;
            dueAsked("the first line, what " + w, x -> x.line(0, w), first[w]);
            dueAsked("the last line, what " + w, x -> x.line(1, w), last[w]);
            for (int line : Twins.beyond(2)) {
                dueAsked("line " + line + ", what " + w, x -> x.line(line, w), NONE);
            }
        }
        for (int what : Twins.beyond(3)) {
            dueAsked("a line, what " + what, x -> x.line(0, what), NONE);
        }
        SignSquares x = Told.of("sign a 1 1;line a;line left a;line a;line " + row(row("a", ":", 10), "-", 8) + ";");
        due("one square", x.line(0, 0), 1);
        due("one sign", x.line(0, 1), 1);
        due("to the right", x.line(0, 2), 0);
        due("to the left", x.line(1, 2), 1);
        due("eight squares", x.line(3, 0), 8);
        due("eighty signs", x.line(3, 1), 80);
        due("no fifth line", x.line(4, 0), NONE);
    }

    // ---- 20: square

    private static void squareBeyond() {
        for (int what = 0; what < 8; what++) {
            int w = what;
            dueNoneBeyond("square, what " + w, (x, line, square) -> x.square(line, square, w));
        }
        for (int what : Twins.beyond(8)) {
            dueAsked("square, what " + what, x -> x.square(0, 0, what), NONE);
        }
    }

    private static void dueSquare(String text, String square, int... want) {
        SignSquares x = Told.of(text + "line " + square + ";");
        for (int what = 0; what < want.length; what++) {
            due("square " + square + ", what " + what, x.square(0, 0, what), want[what]);
        }
    }

    private static void squareAtBounds() {
        dueSquare("sign a 1 1;", "a", 1, 1, 1, 0, 1, 1, 0, 0);
        dueSquare(GREAT, row("m", "*", 10), 10, 147, 12, 0, 1, 10, 0, 0);
        dueSquare(GREAT, row("m", ":", 10), 10, 12, 147, 0, 10, 1, 0, 0);
        dueSquare(GREAT, "m<" + row("m", ":", 9) + ">", 10, 12, 12, 9, 1, 1, 0, 1);
        dueSquare(GREAT, row("(m:m)", "*", 5), 10, 72, 27, 0, 1, 5, 5, 1);
        dueSquare(GREAT, "m*(m:m<m*(m:m<m*(m:m<m>)>)>)", 10, 27, 27, 7, 1, 2, 3, 6);
        dueSquare(GREAT, "m*(m:m*(m:m*(m:m*(m:m))))", 9, 72, 72, 0, 1, 2, 4, 4);
        dueSquare(GREAT, "m<m<m<m>>>", 4, 12, 12, 3, 1, 1, 0, 3);
        // rows of the outer group alone, and parts of its first row
        dueSquare(SIGNS, "a*b:c<a:b:a>:b", 7, 8, 18, 3, 3, 2, 0, 1);
        dueSquare(SIGNS, "c<a*b>:b*b*b", 6, 11, 11, 2, 2, 1, 0, 1);
        dueSquare(SIGNS, "(a:b)*b*b:a", 5, 12, 16, 0, 2, 3, 1, 1);
    }

    /** "Of PARTS BESIDE one another: their widths and a GAP between each two, by the greatest height", and so above. */
    private static void naturalSize() {
        for (int gap = 0; gap <= 3; gap++) {
            String told = "gap " + gap + ";" + SIGNS;
            dueSquare(told, "a", 1, 4, 6);
            dueSquare(told, "a*b", 2, 7 + gap, 6);
            dueSquare(told, "b*a", 2, 7 + gap, 6);
            dueSquare(told, "a:b", 2, 4, 8 + gap);
            dueSquare(told, "b:a", 2, 4, 8 + gap);
            dueSquare(told, "a*b*b", 3, 10 + 2 * gap, 6);
            dueSquare(told, "b:a:b", 3, 4, 10 + 2 * gap);
            dueSquare(told, "(a:b)*c", 3, 12 + gap, 8 + gap);
            dueSquare(told, "a*b:c", 3, Math.max(7 + gap, 8), 14 + gap);
            dueSquare(told, "c<c*c*c:c>", 5, 8, 8);
        }
    }

    // ---- 21: scale

    private static void scaleBeyond() {
        dueNoneBeyond("scale, above", (x, line, square) -> x.scale(line, square, 0));
        dueNoneBeyond("scale, below", (x, line, square) -> x.scale(line, square, 1));
        for (int what : Twins.beyond(2)) {
            dueAsked("scale, what " + what, x -> x.scale(0, 0, what), NONE);
        }
    }

    private static void dueScale(String text, String square, int above, int below) {
        SignSquares x = Told.of(text + "line " + square + ";");
        dueFraction("scale of " + square + " with " + text, x.scale(0, 0, 0), x.scale(0, 0, 1), above, below);
    }

    /** "The least of 1, SIDE by the GROUP's width, SIDE by its height." */
    private static void scaleAtBounds() {
        String n = "gap 0;sign w 6 1;sign h 1 6;sign e 7 1;sign f 1 7;sign t 7 2;sign s 2 7;";
        dueScale(n, "w", 1, 1);
        dueScale(n, "w*w", 1, 1);
        dueScale(n, "h:h", 1, 1);
        dueScale(n, "w*e", 12, 13);
        dueScale(n, "h:f", 12, 13);
        dueScale(n, "e*e", 6, 7);
        // 13 wide and 15 high, 13 wide and 14 high, 15 wide and 13 high: the lesser of both
        dueScale(n, "w*t:f:h", 4, 5);
        dueScale(n, "(f:f)*w*w", 6, 7);
        dueScale(n, "(h:s)*w*e", 4, 5);
        dueScale("side 11;" + n, "w*w", 11, 12);
        dueScale("side 13;" + n, "w*e", 1, 1);
        dueScale("side 1;sign o 1 1;", "o", 1, 1);
        dueScale("side 1;sign o 1 1;", "o*o", 1, 3);
        dueScale("side 1;gap 3;sign m 12 12;", row("m", "*", 10), 1, 147);
        dueScale("side 1;gap 3;sign m 12 12;", row("m", ":", 10), 1, 147);
        dueScale(GREAT, row("m", "*", 10), 8, 49);
        dueScale(GREAT, "m*m", 8, 9);
        dueScale("side 24;gap 0;sign m 12 12;", "m*m", 1, 1);
        dueScale("side 24;gap 1;sign m 12 12;", "m*m", 24, 25);
        dueScale(GREAT, "m<" + row("m", "*", 9) + ">", 1, 1);
    }

    // ---- 22, 23: letter, inside

    private static void letterAndInside() {
        dueNoneBeyond("letter", (x, line, square) -> x.letter(line, square, 0));
        dueNoneBeyond("inside", (x, line, square) -> x.inside(line, square, 0));
        int[] signs = {2, 3, 1};
        for (int square = 0; square < 3; square++) {
            for (int i : Twins.beyond(signs[square])) {
                int q = square;
                dueAsked("letter of no sign " + i, x -> x.letter(0, q, i), NONE);
                dueAsked("inside of no sign " + i, x -> x.inside(0, q, i), NONE);
            }
        }
        SignSquares x = Told.of("sign a 1 1;sign z 1 1 core 1 1;line z<a*z<a:z<a>:a>*a>*z<a>;");
        int[] letters = {25, 0, 25, 0, 25, 0, 0, 0, 25, 0};
        int[] holders = {NOTHING, 0, 0, 2, 2, 4, 2, 0, NOTHING, 8};
        for (int i = 0; i < 10; i++) {
            due("letter of sign " + i, x.letter(0, 0, i), letters[i]);
            due("inside of sign " + i, x.inside(0, 0, i), holders[i]);
        }
        due("letter of an 11th", x.letter(0, 0, 10), NONE);
        due("inside of an 11th", x.inside(0, 0, 10), NONE);
    }

    // ---- 24: box

    private static void boxBeyond() {
        for (int side = 0; side < 5; side++) {
            int s = side;
            dueNoneBeyond("box, side " + s, (x, line, square) -> x.box(line, square, 0, s, 1));
            for (int what : Twins.beyond(2)) {
                dueAsked("box, side " + s + ", what " + what, x -> x.box(0, 0, 0, s, what), NONE);
            }
        }
        for (int side : Twins.beyond(5)) {
            dueAsked("box, side " + side, x -> x.box(0, 0, 0, side, 0), NONE);
            dueAsked("box, below, side " + side, x -> x.box(0, 0, 0, side, 1), NONE);
        }
        for (int i : Twins.beyond(2)) {
            dueAsked("box of no sign " + i, x -> x.box(0, 0, i, 0, 0), NONE);
        }
        for (int i : Twins.beyond(3)) {
            dueAsked("box of no sign " + i + " where one holds", x -> x.box(0, 1, i, 4, 1), NONE);
        }
    }

    /** left, top, width, height, scale, each above and below the line. */
    private static void dueBox(SignSquares x, int i, long... want) {
        for (int side = 0; side < 5; side++) {
            dueFraction("box of " + i + " of " + Told.spelled(x, 0, 0) + ", side " + side, x.box(0, 0, i, side, 0),
                    x.box(0, 0, i, side, 1), want[2 * side], want[2 * side + 1]);
        }
    }

    private static void boxInTheMiddle() {
        SignSquares x = lineOf("a*b");
        dueBox(x, 0, 2, 1, 3, 1, 4, 1, 6, 1, 1, 1);
        dueBox(x, 1, 7, 1, 5, 1, 3, 1, 2, 1, 1, 1);
        x = lineOf("a:b*b");
        dueBox(x, 0, 4, 1, 3, 2, 4, 1, 6, 1, 1, 1);
        dueBox(x, 1, 5, 2, 17, 2, 3, 1, 2, 1, 1, 1);
        dueBox(x, 2, 13, 2, 17, 2, 3, 1, 2, 1, 1, 1);
    }

    private static void boxAtBounds() {
        // it fits just so: nothing left of it, told as 0 by 1
        dueBox(Told.of("side 8;" + SIGNS + "line c;"), 0, 0, 1, 0, 1, 8, 1, 8, 1, 1, 1);
        dueBox(Told.of("side 7;" + SIGNS + "line c;"), 0, 0, 1, 0, 1, 7, 1, 7, 1, 7, 8);
        dueBox(Told.of("side 9;" + SIGNS + "line c;"), 0, 1, 2, 1, 2, 8, 1, 8, 1, 1, 1);
        dueBox(Told.of("side 1;sign t 1 12;line t;"), 0, 11, 24, 0, 1, 1, 12, 1, 1, 1, 12);
        SignSquares x = Told.of(GREAT + "line " + row("m", "*", 10) + ";");
        dueBox(x, 0, 0, 1, 540, 49, 96, 49, 96, 49, 8, 49);
        dueBox(x, 9, 1080, 49, 540, 49, 96, 49, 96, 49, 8, 49);
        x = Told.of(GREAT + "line " + row("m", ":", 10) + ";");
        dueBox(x, 0, 540, 49, 0, 1, 96, 49, 96, 49, 8, 49);
        dueBox(x, 9, 540, 49, 1080, 49, 96, 49, 96, 49, 8, 49);
    }

    /** "Its left is SIDE less its right." */
    private static void boxMirrored() {
        SignSquares x = Told.of(SIGNS + "line left a*b;");
        dueBox(x, 0, 6, 1, 3, 1, 4, 1, 6, 1, 1, 1);
        dueBox(x, 1, 2, 1, 5, 1, 3, 1, 2, 1, 1, 1);
        x = Told.of(GREAT + "line left " + row("m", "*", 10) + ";");
        dueBox(x, 0, 1080, 49, 540, 49, 96, 49, 96, 49, 8, 49);
        dueBox(x, 9, 0, 1, 540, 49, 96, 49, 96, 49, 8, 49);
        // what is inside is mirrored, too: from 9/2 to 13/2 and on to 15/2 it would be, read to the right
        x = Told.of("gap 0;sign k 8 8 core 3 1;sign b 2 1;sign o 1 1;line left k<b*o>;");
        dueBox(x, 1, 11, 2, 11, 2, 2, 1, 1, 1, 1, 1);
        dueBox(x, 2, 9, 2, 11, 2, 1, 1, 1, 1, 1, 1);
    }

    /** "The SIGN's times the least of 1, the CORE's width by the GROUP's, the CORE's height by its." */
    private static void boxInside() {
        String n = "gap 0;sign c 8 8 core 6 4;sign w 6 1;sign v 7 1;sign h 1 4;sign i 1 5;sign o 1 1;sign f 12 12;line ";
        dueInside(n + "c<o>;", 1, 1);
        dueInside(n + "c<w>;", 1, 1);
        dueInside(n + "c<h>;", 1, 1);
        dueInside(n + "c<v>;", 6, 7);
        dueInside(n + "c<i>;", 4, 5);
        dueInside(n + "c<f>;", 1, 3);
        dueInside(n + "c<w*o:h>;", 4, 5);
        dueInside(n + "c<v*o:o>;", 3, 4);
        dueInside("side 4;" + n + "c<o>;", 1, 2);
        dueInside("side 4;" + n + "c<v>;", 3, 7);
        SignSquares x = Told.of("sign d 5 5 core 2 2;sign e 1 1;line d<e>;");
        dueBox(x, 0, 7, 2, 7, 2, 5, 1, 5, 1, 1, 1);
        dueBox(x, 1, 11, 2, 11, 2, 1, 1, 1, 1, 1, 1);
        // a core as wide and high as its sign, and what fills it just so
        x = Told.of("gap 0;sign d 6 4 core 6 4;sign e 3 2;line d<e*e:e*e>;");
        dueBox(x, 1, 3, 1, 4, 1, 3, 1, 2, 1, 1, 1);
        dueBox(x, 4, 6, 1, 6, 1, 3, 1, 2, 1, 1, 1);
    }

    private static void dueInside(String text, int above, int below) {
        SignSquares x = Told.of(text);
        dueFraction("scale inside, " + text, x.box(0, 0, 1, 4, 0), x.box(0, 0, 1, 4, 1), above, below);
    }

    private static void boxScaledInside() {
        SignSquares x = lineOf("c<c<c<b>>>");
        dueBox(x, 0, 2, 1, 2, 1, 8, 1, 8, 1, 1, 1);
        dueBox(x, 1, 4, 1, 4, 1, 4, 1, 4, 1, 1, 2);
        dueBox(x, 2, 5, 1, 5, 1, 2, 1, 2, 1, 1, 4);
        dueBox(x, 3, 45, 8, 23, 4, 3, 4, 1, 2, 1, 4);
        // a square that is scaled, and three cores, each by the greatest there is: 1/12 of 1/12 of 1/12 of 1/12
        x = Told.of("side 1;gap 3;sign m 12 12 core 1 1;line m<m<m<m>>>;");
        dueFraction("the least scale", x.box(0, 0, 3, 4, 0), x.box(0, 0, 3, 4, 1), 1, 20736);
        dueFraction("its left", x.box(0, 0, 3, 0, 0), x.box(0, 0, 3, 0, 1), 1727, 3456);
        dueFraction("its width", x.box(0, 0, 3, 2, 0), x.box(0, 0, 3, 2, 1), 1, 1728);
        x = Told.of("side 1;gap 3;sign m 12 12 core 1 1;line m*m<m*m<m*m<m*m*m*m>>>;");
        dueFraction("a wide group within wide groups", x.box(0, 0, 9, 4, 0), x.box(0, 0, 9, 4, 1), 1, 27 * 27 * 27 * 57);
    }

    // ---- 25: at

    private static void atBeyond() {
        dueNoneBeyond("at", (x, line, square) -> x.at(line, square, 0, 0, 1));
        for (int far : new int[] {10001, 10002, -10001, -10002, Integer.MAX_VALUE, Integer.MIN_VALUE}) {
            dueAsked("at x " + far, x -> x.at(0, 0, far, 0, 1), NONE);
            dueAsked("at y " + far, x -> x.at(0, 0, 0, far, 1), NONE);
            dueAsked("at both " + far, x -> x.at(0, 0, far, far, 100), NONE);
        }
        for (int far : new int[] {10000, 9999, -10000, -9999}) {
            dueAsked("at x " + far, x -> x.at(0, 0, far, 0, 1), NOTHING);
            dueAsked("at y " + far, x -> x.at(0, 0, 0, far, 1), NOTHING);
            dueAsked("at both " + far, x -> x.at(0, 0, far, far, 100), NOTHING);
        }
        for (int by : new int[] {0, -1, -2, 101, 102, Integer.MAX_VALUE, Integer.MIN_VALUE}) {
            dueAsked("at by " + by, x -> x.at(0, 0, 0, 0, by), NONE);
            dueAsked("at by " + by + ", where there would be one", x -> x.at(1, 2, 1000, 1000, by), NONE);
        }
        dueAsked("at by 1", x -> x.at(1, 2, 10, 10, 1), 0);
        dueAsked("at by 100", x -> x.at(1, 2, 1000, 1000, 100), 0);
    }

    /** "On an edge of a box is in it." */
    private static void atEdges() {
        SignSquares x = lineOf("a*b");
        int[][] points = {{200, 300, 0}, {600, 900, 0}, {200, 900, 0}, {600, 300, 0}, {199, 300, NOTHING},
            {200, 299, NOTHING}, {601, 900, NOTHING}, {600, 901, NOTHING}, {699, 600, NOTHING}, {700, 500, 1},
            {1000, 700, 1}, {1001, 700, NOTHING}, {1000, 701, NOTHING}, {700, 499, NOTHING}};
        for (int[] p : points) {
            due("at " + p[0] + ", " + p[1] + " by 100", x.at(0, 0, p[0], p[1], 100), p[2]);
        }
        x = Told.of("side 8;" + SIGNS + "line c;");
        due("the square's upper left corner", x.at(0, 0, 0, 0, 1), 0);
        due("its lower right corner", x.at(0, 0, 8, 8, 1), 0);
        due("left of it", x.at(0, 0, -1, 0, 100), NOTHING);
        due("above it", x.at(0, 0, 0, -1, 100), NOTHING);
        due("right of it", x.at(0, 0, 801, 800, 100), NOTHING);
        due("below it", x.at(0, 0, 800, 801, 100), NOTHING);
    }

    /** "Of several the last one." */
    private static void atTheLastOne() {
        SignSquares x = lineOf("c<b>");
        due("a corner inside", x.at(0, 0, 45, 50, 10), 1);
        due("just left of it", x.at(0, 0, 44, 50, 10), 0);
        due("another corner inside", x.at(0, 0, 75, 70, 10), 1);
        due("just right of it", x.at(0, 0, 76, 70, 10), 0);
        due("just below it", x.at(0, 0, 75, 71, 10), 0);
        x = Told.of("gap 0;sign q 6 6;line q*q:q*q;");
        due("on the edge of two", x.at(0, 0, 6, 3, 1), 1);
        due("on the edge of two, one above the other", x.at(0, 0, 3, 6, 1), 2);
        due("on the corner of four", x.at(0, 0, 6, 6, 1), 3);
        x = lineOf("c<c<c<b>>>");
        due("the innermost of four", x.at(0, 0, 6, 6, 1), 3);
    }

    private static void atMirrored() {
        SignSquares x = Told.of(SIGNS + "line left a*b;");
        due("the last at the left", x.at(0, 0, 2, 5, 1), 1);
        due("its right edge", x.at(0, 0, 5, 5, 1), 1);
        due("beside it", x.at(0, 0, 51, 50, 10), NOTHING);
        due("the first at the right", x.at(0, 0, 6, 3, 1), 0);
        due("its right edge", x.at(0, 0, 10, 9, 1), 0);
        due("beside it", x.at(0, 0, 101, 90, 10), NOTHING);
        x = Told.of("gap 0;sign q 6 6;line left q*q;");
        due("on the edge of two the last one, too", x.at(0, 0, 6, 6, 1), 1);
    }

    // ---- 26: column

    private static void column() {
        dueNoneBeyond("column", (x, line, square) -> x.column(line, square));
        SignSquares x = Told.of("sign a 1 1;line a;line left a;line " + row("a", "-", 8) + ";line left "
                + row("a", "-", 8) + ";");
        due("one square", x.column(0, 0), 0);
        due("one square to the left", x.column(1, 0), 0);
        for (int k = 0; k < 8; k++) {
            due("column of " + k, x.column(2, k), k);
            due("column to the left of " + k, x.column(3, k), 7 - k);
        }
        due("no ninth square", x.column(2, 8), NONE);
        due("no ninth square to the left", x.column(3, 8), NONE);
        due("none ahead of the first to the left", x.column(3, -1), NONE);
    }

    // ---- 27: covered

    private static void coveredBeyond() {
        dueNoneBeyond("covered, above", (x, line, square) -> x.covered(line, square, 0));
        dueNoneBeyond("covered, below", (x, line, square) -> x.covered(line, square, 1));
        for (int what : Twins.beyond(2)) {
            dueAsked("covered, what " + what, x -> x.covered(0, 0, what), NONE);
        }
    }

    private static void dueCovered(String text, int above, int below) {
        SignSquares x = Told.of(text);
        dueFraction("covered, " + text, x.covered(0, 0, 0), x.covered(0, 0, 1), above, below);
    }

    private static void coveredAtBounds() {
        dueCovered("side 24;sign o 1 1;line o;", 1, 576);
        dueCovered("side 1;sign o 1 1;line o;", 1, 1);
        dueCovered("side 1;sign m 12 12;line m;", 1, 1);
        dueCovered("side 1;sign m 12 1;line m;", 1, 12);
        dueCovered("gap 0;sign q 6 6;line q*q:q*q;", 1, 1);
        dueCovered("gap 0;sign q 6 6;line q*q:q;", 3, 4);
        dueCovered(SIGNS + "line a*b;", 5, 24);
        dueCovered(SIGNS + "line left a*b;", 5, 24);
        dueCovered(SIGNS + "line c;", 4, 9);
        dueCovered(SIGNS + "line c<b*a:a>;", 4, 9);
        dueCovered(GREAT + "line " + row("m", "*", 10) + ";", 160, 2401);
    }

    // ---- 28: smallest

    private static void smallest() {
        dueNoneBeyond("smallest", (x, line, square) -> x.smallest(line, square));
        due("one sign", lineOf("a").smallest(0, 0), 1);
        due("ten alike", lineOf(row("a", "*", 10)).smallest(0, 0), 10);
        due("a sign inside that fits", lineOf("c<b>").smallest(0, 0), 2);
        due("a sign inside that doesn't", lineOf("c<a>").smallest(0, 0), 1);
        due("nine inside", lineOf("c<" + row("a", ":", 9) + ">").smallest(0, 0), 9);
        due("the lesser of two inside", lineOf("c<a>*c<a:b>").smallest(0, 0), 2);
        due("as small in two", lineOf("c<a>*c<a>*c").smallest(0, 0), 2);
        due("the innermost two", lineOf("c<c<c<b>>>").smallest(0, 0), 2);
        // 4/8 and 6/12 are as small
        due("as small by other numbers", Told.of("gap 0;sign c 8 8 core 4 4;sign d 6 6 core 6 6;sign e 8 8;sign f 12 12;"
                + "line c<e>*d<f>;").smallest(0, 0), 2);
    }

    // ---- 29: same

    private static void same() {
        dueNoneBeyond("same", (x, line, square) -> x.same(line, square, 0, 0));
        dueNoneBeyond("same, the other", (x, line, square) -> x.same(0, 0, line, square));
        dueAsked("both are wrong", x -> x.same(2, 0, 2, 0), NONE);
        SignSquares x = Told.of(SIGNS + "line a*b-c<a:b>-a:b;line left a*b-(c<(a:b)>)-c<a*b>-c-b*a;");
        due("itself", x.same(0, 0, 0, 0), 1);
        due("the same in another line", x.same(0, 0, 1, 0), 1);
        due("the same, held normal", x.same(0, 1, 1, 1), 1);
        due("the other way round", x.same(1, 1, 0, 1), 1);
        due("above, not beside", x.same(0, 0, 0, 2), 0);
        due("inside, above, not beside", x.same(1, 1, 1, 2), 0);
        due("one that is longer", x.same(1, 3, 1, 2), 0);
        due("one that is shorter", x.same(1, 2, 1, 3), 0);
        due("another order", x.same(1, 0, 1, 4), 0);
    }

    // ---- 30, 31: tightest, least

    private static void tightest() {
        for (int line : Twins.beyond(2)) {
            dueAsked("tightest of line " + line, x -> x.tightest(line), NONE);
        }
        due("one square", lineOf("a").tightest(0), 0);
        due("all fit: the first", lineOf("a-b-c-a*b").tightest(0), 0);
        due("the last", lineOf("a-b-c-a*b-a-a-a-c*c").tightest(0), 7);
        due("the first of two", lineOf("a-c*c-b-c*c").tightest(0), 1);
        due("the first of two, by width and by height", lineOf("a-c:c-b-c*c").tightest(0), 1);
        due("the first", lineOf("c*c*c-c*c").tightest(0), 0);
        due("of a line to the left", Told.of(SIGNS + "line left a-c*c-c*c*c;").tightest(0), 2);
    }

    private static void least() {
        for (int line : Twins.beyond(2)) {
            dueAsked("least of line " + line, x -> x.least(line, 0), NONE);
            dueAsked("least of line " + line + ", below", x -> x.least(line, 1), NONE);
        }
        for (int what : Twins.beyond(2)) {
            dueAsked("least, what " + what, x -> x.least(0, what), NONE);
        }
        dueLeast("a", 1, 1);
        dueLeast("a-b-c", 1, 1);
        dueLeast("a-c*c-b", 12, 17);
        dueLeast("c*c-c*c*c-c:c", 6, 13);
        dueLeast("a-b-c-a-b-c-a-c:c:c:c", 12, 35);
    }

    private static void dueLeast(String line, int above, int below) {
        SignSquares x = lineOf(line);
        dueFraction("least of " + line, x.least(0, 0), x.least(0, 1), above, below);
    }

    // ---- 32 .. 34: arrangements

    private static void ways() {
        dueNoneBeyond("ways", (x, line, square) -> x.ways(line, square));
        int[] want = {1, 2, 6, 22, 90, 394, NOTHING, NOTHING, NOTHING, NOTHING};
        for (int n = 1; n <= 10; n++) {
            due("ways of " + n, lineOf(row("a", "*", n)).ways(0, 0), want[n - 1]);
            due("ways of " + n + " above", lineOf(row("b", ":", n)).ways(0, 0), want[n - 1]);
        }
        due("those inside are none of them", lineOf("c<" + row("a", "*", 9) + ">").ways(0, 0), 1);
        due("six of ten", lineOf("c<a>*c<a*b>*c<b>*a*b*a").ways(0, 0), 394);
        due("seven of ten", lineOf("c<a>*c<a*b>*a*b*a*(a:b)").ways(0, 0), NOTHING);
    }

    private static void bestBeyond() {
        dueNoneBeyond("best, above", (x, line, square) -> x.best(line, square, 0));
        dueNoneBeyond("best, below", (x, line, square) -> x.best(line, square, 1));
        SignSquares seven = lineOf(row("a", "*", 7));
        SignSquares six = lineOf(row("a", "*", 6));
        for (int what : Twins.beyond(2)) {
            dueAsked("best, what " + what, x -> x.best(0, 0, what), NONE);
            due("both could be told: best of seven, what " + what, seven.best(0, 0, what), NONE);
            due("best of six, what " + what, six.best(0, 0, what), NONE);
        }
        for (int n = 7; n <= 10; n++) {
            SignSquares x = lineOf(row("a", ":", n));
            due("best of " + n + ", above", x.best(0, 0, 0), NOTHING);
            due("best of " + n + ", below", x.best(0, 0, 1), NOTHING);
            due("best text of " + n, x.bestText(0, 0, NONE), NOTHING);
            due("best text of " + n + ", its first", x.bestText(0, 0, 0), NOTHING);
            due("both could be told: best text of " + n, x.bestText(0, 0, -2), NONE);
            due("both could be told: best text of no square", x.bestText(0, 1, 0), NONE);
        }
    }

    private static void dueBest(String text, String square, String want, int above, int below) {
        SignSquares x = Told.of(text + "line " + square + ";");
        String all = Told.spelled(x, NONE, NONE);
        TOLD.due("best of " + square, Told.bestText(x, 0, 0), want);
        dueFraction("best scale of " + square, x.best(0, 0, 0), x.best(0, 0, 1), above, below);
        TOLD.due("asking for the best arranges nothing", Told.spelled(x, NONE, NONE), all);
        due("nor is it an act", x.count(6), 0);
    }

    private static void bestAtBounds() {
        String q = "gap 0;sign q 4 4 core 2 2;";
        dueBest("side 24;" + q, "q", "q", 1, 1);
        dueBest("side 24;" + q, row("q", ":", 6), row("q", "*", 6), 1, 1);
        dueBest("side 23;" + q, row("q", ":", 6), "q*q*q*q*q:q", 1, 1);
        dueBest("side 12;" + q, row("q", ":", 6), "q*q*q:q*q*q", 1, 1);
        dueBest("side 11;" + q, row("q", "*", 6), "q*q*q:q*q*q", 11, 12);
        dueBest("side 1;" + q, row("q", "*", 6), "q*q*q:q*q*q", 1, 12);
        dueBest("side 1;" + q, "q*q", "q*q", 1, 8);
        dueBest("side 24;" + q, "q<q:q>:q<q*q>:q:q:q:q", "q<q:q>*q<q*q>*q*q*q*q", 1, 1);
        dueBest("side 1;gap 3;sign m 12 12;", row("m", "*", 6), "m*m*m:m*m*m", 1, 42);
        // the gaps count: 3 by 2 thrice is 9, 11, 13 wide; 6 by 5 thrice is 15 wide, two above one another
        dueBest("gap 0;sign b 3 2;", "b:b:b", "b*b*b", 1, 1);
        dueBest("gap 1;sign b 3 2;", "b:b:b", "b*b*b", 1, 1);
        dueBest("gap 2;sign b 3 2;", "b:b:b", "b*b:b", 1, 1);
        dueBest("gap 3;sign f 6 5;", "f:f:f", "f*f:f", 4, 5);
    }

    /** Each sign has one place only where all fill the square: so each of these is the one and only best. */
    private static void bestThatFillsTheSquare() {
        String lying = "side 4;gap 0;sign a 1 1;sign b 1 1;sign c 1 2;sign d 2 1;sign e 2 3;sign f 4 1;";
        dueBest(lying, "a*b*c*d*e*f", "((a:b)*c:d)*e:f", 1, 1);
        dueBest(lying, "f*e*d*c*b*a", "f:e*(d:c*(b:a))", 1, 1);
        dueBest(lying, "f*d*a*b*c*e", "f:(d:(a:b)*c)*e", 1, 1);
        dueBest(lying, "e*c*a*b*d*f", "e*(c*(a:b):d):f", 1, 1);
        String standing = "side 4;gap 0;sign a 1 1;sign b 1 1;sign c 2 1;sign d 1 2;sign e 3 2;sign f 1 4;";
        dueBest(standing, "a*b*c*d*e*f", "((a*b:c)*d:e)*f", 1, 1);
        dueBest(standing, "f*e*d*c*b*a", "f*(e:d*(c:b*a))", 1, 1);
        dueBest(standing, "f*d*a*b*c*e", "f*(d*(a*b:c):e)", 1, 1);
        dueBest(standing, "e*c*a*b*d*f", "(e:(c:a*b)*d)*f", 1, 1);
    }

    /** What was best of another square, side, gap or table is not best now. */
    private static void bestAgain() {
        SignSquares x = Told.of("gap 0;sign f 6 5;sign b 3 2;line f:f-b:b-b:f;line f:f;");
        for (int times = 0; times < 2; times++) {
            TOLD.due("best of the first", Told.bestText(x, 0, 0), "f*f");
            TOLD.due("best of the next", Told.bestText(x, 0, 1), "b*b");
            TOLD.due("best of the third", Told.bestText(x, 0, 2), "b*f");
            TOLD.due("best of the other line's", Told.bestText(x, 1, 0), "f*f");
        }
        x.gap(1);
        TOLD.due("best with another gap", Told.bestText(x, 1, 0), "f:f");
        x.undo();
        TOLD.due("best with the gap as it was", Told.bestText(x, 1, 0), "f*f");
        x.side(11);
        TOLD.due("best with another side", Told.bestText(x, 1, 0), "f:f");
        x.side(24);
        TOLD.due("best with a third side", Told.bestText(x, 1, 0), "f*f");
        x.exchange(1, 0, 0, 1);
        TOLD.due("best of what was exchanged", Told.bestText(x, 1, 0), "b*f");
        Told.tell(x, "side 24;gap 0;sign f 12 12;sign b 12 6;line f:b;");
        TOLD.due("best of another text", Told.bestText(x, 0, 0), "f*b");
        Told.tell(x, "side 12;gap 0;sign f 12 6;sign b 12 6;line f:b;");
        TOLD.due("best of another table", Told.bestText(x, 0, 0), "f:b");
    }

    /** "Of several that with fewest brackets, then the first by its TEXT without blanks (bytes)." */
    private static void bestOfSeveral() {
        String told = "side 4;gap 0;sign t 1 4;sign u 1 2;sign w 4 1;sign v 2 1;";
        dueBest(told, "t:u:u", "t*u*u", 1, 1);
        // with one bracket both t*(u:u) and more would fit, too; with none t*u*u does
        dueBest(told, "t*(u:u)", "t*u*u", 1, 1);
        dueBest(told, "w*v*v", "w:v*v", 1, 1);
        dueBest(told, "u*u*u*u*u", "u*u*u*u:u", 1, 1);
        dueBest(told, "t*u*u*u*u", "t*(u*u*u:u)", 1, 1);
        dueBest(told, "u*u*u*u*t", "(u*u*u:u)*t", 1, 1);
        dueBest(told, "u*u*t*u*u", "(u:u)*t*u*u", 1, 1);
        // (p:q)*r*t, (p:q*r)*t and (p:q:r)*t all fit with one bracket
        dueBest("side 4;gap 0;sign p 2 1;sign q 2 1;sign r 1 1;sign t 1 4;", "p*q*r*t", "(p:q)*r*t", 1, 1);
        dueBest("side 4;gap 0;sign p 2 1;sign q 2 1;sign r 1 1;sign t 1 4;", "t*p*q*r", "t*(p:q)*r", 1, 1);
        dueBest("side 4;gap 0;sign p 2 1;sign q 2 1;sign r 1 1;sign t 1 4;", "t*p*r*q", "t*(p*r:q)", 1, 1);
    }

    private static void bestText() {
        dueNoneBeyond("best text", (x, line, square) -> x.bestText(line, square, 0));
        dueNoneBeyond("best text's length", (x, line, square) -> x.bestText(line, square, NONE));
        dueAsked("its length", x -> x.bestText(0, 0, NONE), 3);
        dueAsked("its first", x -> x.bestText(0, 0, 0), 'a');
        dueAsked("its last", x -> x.bestText(0, 0, 2), 'b');
        for (int i : new int[] {-2, -3, 3, 4, 1000, Integer.MAX_VALUE, Integer.MIN_VALUE}) {
            dueAsked("best text at " + i, x -> x.bestText(0, 0, i), NONE);
        }
        SignSquares one = lineOf("a");
        due("of one sign", one.bestText(0, 0, NONE), 1);
        due("of one sign, 0", one.bestText(0, 0, 0), 'a');
        due("of one sign, 1", one.bestText(0, 0, 1), NONE);
    }

    // ---- 35: joined

    private static void joined() {
        dueNoneBeyond("joined, above", (x, line, square) -> x.joined(line, square, 0));
        dueNoneBeyond("joined, below", (x, line, square) -> x.joined(line, square, 1));
        for (int what : Twins.beyond(2)) {
            dueAsked("joined, what " + what, x -> x.joined(0, 0, what), NONE);
            due("both could be told: eleven, what " + what,
                    lineOf("a*a*a*a*a-a*a*a*a*a*a").joined(0, 0, what), NONE);
        }
        dueAsked("the last has no next one", x -> x.joined(0, 2, 0), NONE);
        dueAsked("the last of a line to the left has none", x -> x.joined(1, 2, 1), NONE);
        due("one square alone", lineOf("a").joined(0, 0, 0), NONE);
        dueJoined("a-a", 1, 1);
        dueJoined("a:b-c", 12, 13);
        dueJoined("a*a*a*a*a-a*a*a*a*a", 12, 49);
        dueJoined("a:a:a:a:a:a:a:a:a-a", 6, 31);
        dueJoined("c<a*a*a*a>-c<b*b*b*b>", 12, 17);
        dueJoined("a*a*a*a*a-a*a*a*a*a*a", NOTHING, NOTHING);
        dueJoined("a-a:a:a:a:a:a:a:a:a:a", NOTHING, NOTHING);
        dueJoined("c<a*a*a*a>-c<b*b*b*b*b>", NOTHING, NOTHING);
        SignSquares x = lineOf("a-b-c-a-b-c-c-c");
        dueFraction("the last two of eight", x.joined(0, 6, 0), x.joined(0, 6, 1), 12, 17);
        due("the eighth of eight", x.joined(0, 7, 0), NONE);
    }

    private static void dueJoined(String line, int above, int below) {
        SignSquares x = lineOf(line);
        dueFraction("joined " + line, x.joined(0, 0, 0), x.joined(0, 0, 1), above, below);
        due("nothing is joined", x.line(0, 0), 2);
        due("it is no act", x.count(6), 0);
        TOLD.due("it can be joined just then", x.join(0, 0), above != NOTHING);
        dueFraction("and has that scale", x.scale(0, 0, 0), x.scale(0, 0, 1),
                above == NOTHING ? x.scale(0, 0, 0) : above, below == NOTHING ? x.scale(0, 0, 1) : below);
    }

    // ---- 36: spell

    private static void spellBeyond() {
        int[] ofSquare = {-2, -3, 3, 4, 1000, Integer.MAX_VALUE, Integer.MIN_VALUE};
        for (int i : ofSquare) {
            dueAsked("spell of a square at " + i, x -> x.spell(0, 0, i), NONE);
        }
        // "line left a*b-c<a:b>-a;" and "side 20;gap 0;sign a 4 6;sign b 3 2;sign c 8 8 core 6 4;sign z 5 5;" ..
        for (int i : new int[] {-2, 23, 24, 1000, Integer.MAX_VALUE, Integer.MIN_VALUE}) {
            dueAsked("spell of a line at " + i, x -> x.spell(0, NONE, i), NONE);
        }
        for (int i : new int[] {-2, 118, 119, 1000, Integer.MAX_VALUE, Integer.MIN_VALUE}) {
            dueAsked("spell of all at " + i, x -> x.spell(NONE, NONE, i), NONE);
        }
        for (int i : new int[] {NONE, 0}) {
            for (int line : new int[] {-2, -3, 2, 3, 4, Integer.MAX_VALUE, Integer.MIN_VALUE}) {
                dueAsked("spell of line " + line, x -> x.spell(line, NONE, i), NONE);
                dueAsked("spell of a square of line " + line, x -> x.spell(line, 0, i), NONE);
            }
            for (int square : new int[] {-2, -3, 3, 4, 8, Integer.MAX_VALUE, Integer.MIN_VALUE}) {
                dueAsked("spell of square " + square, x -> x.spell(0, square, i), NONE);
                dueAsked("all, square " + square, x -> x.spell(NONE, square, i), i == NONE ? 118 : 's');
            }
        }
    }

    private static void spellAtBounds() {
        dueAsked("a square's length", x -> x.spell(0, 0, NONE), 3);
        dueAsked("a square's first", x -> x.spell(0, 0, 0), 'a');
        dueAsked("a square's last", x -> x.spell(0, 0, 2), 'b');
        dueAsked("a line's length", x -> x.spell(0, NONE, NONE), 23);
        dueAsked("a line's first", x -> x.spell(0, NONE, 0), 'l');
        dueAsked("a line's last", x -> x.spell(0, NONE, 22), ';');
        dueAsked("all of it", x -> x.spell(NONE, NONE, NONE), 118);
        dueAsked("its first", x -> x.spell(NONE, NONE, 0), 's');
        dueAsked("its last", x -> x.spell(NONE, NONE, 117), ';');
        SignSquares x = base();
        TOLD.due("a line", Told.spelled(x, 0, NONE), "line left a*b-c<a:b>-a;");
        TOLD.due("all", Told.spelled(x, NONE, 99), "side 20;gap 0;sign a 4 6;sign b 3 2;sign c 8 8 core 6 4;sign z 5 5;"
                + "line left a*b-c<a:b>-a;line left b*b*b*a-(a:b)*c-b;");
        // "one blank between WORDS, N that stand side by side, none else"
        dueSpelled("line(a:b)*b", "line(a:b)*b;");
        dueSpelled("line left(a:b)*b", "line left(a:b)*b;");
        dueSpelled("line left (  a : b ) * c < b : a >  -  a", "line left(a:b)*c<b:a>-a;");
        dueSpelled("line a", "line a;");
        TOLD.due("numbers of two digits", Told.spelled(Told.of("side 024;side 10;gap 03;sign y 12 10 core 11 09;"
                + "sign b 09 10;"), NONE, NONE), "side 12;gap 1;");
        TOLD.due("numbers of two digits", Told.spelled(Told.of("side 10;gap 03;sign y 12 10 core 11 09;"
                + "sign b 09 10;"), NONE, NONE), "side 10;gap 3;sign b 9 10;sign y 12 10 core 11 9;");
        String ten = row("a", "*", 10);
        TOLD.due("a full square", Told.spelled(lineOf(ten), 0, 0), ten);
        TOLD.due("a full line", Told.spelled(lineOf(row(ten, "-", 8)), 0, NONE), "line " + row(ten, "-", 8) + ";");
    }

    private static void dueSpelled(String line, String want) {
        SignSquares x = Told.of(SIGNS + line + ";");
        TOLD.due("spelled " + line, Told.spelled(x, 0, NONE), want);
        TOLD.due("all of " + line, Told.spelled(x, NONE, NONE), "side 12;gap 1;" + SIGNS + want);
    }

    // ---- 37: count

    private static void count() {
        int[] want = {2, 6, 14, 4, 20, 0, 3, 13, 1};
        for (int what = 0; what < want.length; what++) {
            int w = what;
            dueAsked("count " + w, x -> x.count(w), want[w]);
        }
        for (int what : Twins.beyond(9)) {
            dueAsked("count " + what, x -> x.count(what), NONE);
        }
        StringBuilder full = new StringBuilder("side 24;gap 3;");
        for (char l = 'a'; l < 'm'; l++) {
            full.append("sign ").append(l).append(" 1 1;");
        }
        full.append("line ").append(row("a", "-", 8)).append(";line a;line a;line a;");
        SignSquares x = Told.of(full.toString());
        for (int n = 0; n < 13; n++) {
            x.mirror(3);
        }
        for (int n = 0; n < 21; n++) {
            x.feed(0, 0, 0, 0, 0);
        }
        int[] most = {4, 11, 11, 12, 24, 3, 12, 400, 0};
        for (int what = 0; what < most.length; what++) {
            due("count " + what + " of what is full", x.count(what), most[what]);
        }
    }

    /** Where there are no lines yet, nothing can be asked of one. */
    private static void newObject() {
        Twins anew = new Twins(TOLD, SignSquares::new);
        anew.dueAnswer("sign", x -> x.sign(0, 0), NOTHING);
        anew.dueAnswer("line", x -> x.line(0, 0), NONE);
        anew.dueAnswer("square", x -> x.square(0, 0, 0), NONE);
        anew.dueAnswer("scale", x -> x.scale(0, 0, 0), NONE);
        anew.dueAnswer("letter", x -> x.letter(0, 0, 0), NONE);
        anew.dueAnswer("inside", x -> x.inside(0, 0, 0), NONE);
        anew.dueAnswer("box", x -> x.box(0, 0, 0, 0, 0), NONE);
        anew.dueAnswer("at", x -> x.at(0, 0, 0, 0, 1), NONE);
        anew.dueAnswer("column", x -> x.column(0, 0), NONE);
        anew.dueAnswer("covered", x -> x.covered(0, 0, 0), NONE);
        anew.dueAnswer("smallest", x -> x.smallest(0, 0), NONE);
        anew.dueAnswer("same", x -> x.same(0, 0, 0, 0), NONE);
        anew.dueAnswer("tightest", x -> x.tightest(0), NONE);
        anew.dueAnswer("least", x -> x.least(0, 0), NONE);
        anew.dueAnswer("ways", x -> x.ways(0, 0), NONE);
        anew.dueAnswer("best", x -> x.best(0, 0, 0), NONE);
        anew.dueAnswer("bestText", x -> x.bestText(0, 0, NONE), NONE);
        anew.dueAnswer("joined", x -> x.joined(0, 0, 0), NONE);
        anew.dueAnswer("spell of a line", x -> x.spell(0, NONE, NONE), NONE);
        anew.dueAnswer("spell of a square", x -> x.spell(0, 0, NONE), NONE);
        anew.dueAnswer("spell of all", x -> x.spell(NONE, 0, NONE), 14);
        anew.dueAnswer("spell of all, behind it", x -> x.spell(NONE, 0, 14), NONE);
    }
}
