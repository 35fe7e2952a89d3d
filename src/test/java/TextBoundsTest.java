/** Promises 1 to 4, and what 'Terms' says of TABLE, SIDE, GAP, LINES, SQUARES, TEXT and FAULT: at each bound, and beyond. */
public final class TextBoundsTest {
    private static final Told TOLD = new Told();
    private static final int NONE = SignSquares.NONE;
    private static final int BLANKS = 0x20202020;
    /** An object that a text with a fault must leave as it is, its acts too. */
    private static final Twins TWINS = new Twins(TOLD, TextBoundsTest::base);

    public static void main(String[] args) {
        newObject();
        lastOfAllCalls();
        feed();
        feedRefused();
        feedOfAllBytes();
        back();
        emptyText();
        textAnew();
        textEmptiesTheTape();
        sides();
        gaps();
        latestSideAndGap();
        sizes();
        cores();
        toldOnce();
        toldTwelve();
        toldAhead();
        lines();
        squares();
        signsOfSquare();
        openBrackets();
        openCores();
        openBoth();
        closedBracketsAreOpenNoMore();
        coreless();
        everyLetter();
        normal();
        words();
        numbers();
        blanks();
        blanksBetween();
        everyByteAtEveryKindOfPlace();
        bracketsThatDoNotMatch();
        everyEnd();
        longestText();
        TOLD.end();
    }

    private static SignSquares base() {
        SignSquares x = Told.of("side 13;gap 2;sign a 4 6;sign b 3 2;sign c 8 8 core 6 4;line a*b-c<a:b>;line left b*a;");
        x.side(20);
        x.mirror(0);
        x.turn(1, 0);
        return x;
    }

    private static void due(String what, long got, long want) {
        TOLD.due(what, got, want);
    }

    /** The text is good, and all is anew, as the other text says it. */
    private static void dueText(String text, int lines, String spelled) {
        SignSquares x = base();
        due("text '" + text + "'", Told.tell(x, text), lines);
        due("its lines", x.count(0), lines);
        due("no acts behind it", x.count(6), 0);
        due("no tape behind it", x.count(7), 0);
        TOLD.due("text '" + text + "'", Told.spelled(x, NONE, NONE), spelled);
    }

    /** The text's answer alone, for loops. */
    private static void dueGood(String text, int lines) {
        due("text '" + text + "'", Told.tell(new SignSquares(), text), lines);
    }

    /** The text has a fault there, the tape is empty behind it, and all else stays. */
    private static void dueFault(String text, int at) {
        TWINS.dueRefused("text '" + text + "'", x -> Told.tell(x, text), -4 - at);
    }

    private static String times(String s, int n) {
        return s.repeat(n);
    }

    /** n of the same, a mark between. */
    private static String row(String s, String mark, int n) {
        return s + times(mark + s, n - 1);
    }

    // ---- 1: a new object

    private static void newObject() {
        SignSquares x = new SignSquares();
        int[] counts = {0, 0, 0, 0, 12, 1, 0, 0, 0};
        for (int what = 0; what < counts.length; what++) {
            due("a new object's count " + what, x.count(what), counts[what]);
        }
        for (int letter = 0; letter < 26; letter++) {
            for (int what = 0; what < 5; what++) {
                due("a new object has no sign " + letter, x.sign(letter, what), -2);
            }
        }
        due("a new object has no line", x.line(0, 0), NONE);
        due("a new object has no square", x.square(0, 0, 0), NONE);
        due("a new object has no act", x.undo(), NONE);
        due("a new object has no tape", x.back(1), NONE);
        TOLD.due("a new object's text", Told.spelled(x, NONE, NONE), "side 12;gap 1;");
        SignSquares other = new SignSquares();
        other.side(5);
        due("objects have a side each", x.count(4), 12);
    }

    /** "An object is used for at most 512 calls": the 512th still answers as it should. */
    private static void lastOfAllCalls() {
        SignSquares x = new SignSquares();
        for (int n = 1; n < 512; n++) {
            x.side(n % 2 == 1 ? 24 : 12);
        }
        due("the 512th call", x.undo(), 11);
        x = new SignSquares();
        for (int n = 1; n < 511; n++) {
            x.feed(BLANKS, BLANKS, BLANKS, BLANKS, BLANKS);
        }
        due("the 511th call", x.count(7), 400);
        due("the 512th call", x.text(), 0);
    }

    // ---- 2, 3: the tape

    private static void feed() {
        SignSquares x = new SignSquares();
        for (int n = 20; n <= 400; n += 20) {
            due("feed to " + n, x.feed(BLANKS, BLANKS, BLANKS, BLANKS, BLANKS), n);
        }
        due("a full tape takes no more", x.feed(-1, -1, -1, -1, -1), NONE);
        due("nothing comes", x.count(7), 400);
        due("nothing came: blanks alone", x.text(), 0);
        for (int gone = 1; gone <= 20; gone++) {
            SignSquares y = new SignSquares();
            for (int n = 0; n < 20; n++) {
                y.feed(BLANKS, BLANKS, BLANKS, BLANKS, BLANKS);
            }
            y.back(gone);
            due("feed with " + gone + " free", y.feed(BLANKS, BLANKS, BLANKS, BLANKS, BLANKS), gone == 20 ? 400 : NONE);
            due("the tape with " + gone + " free", y.count(7), gone == 20 ? 400 : 400 - gone);
        }
    }

    /** "NONE, and nothing comes": neither behind what is on the tape nor over it. */
    private static void feedRefused() {
        for (int gone : new int[] {0, 1, 10, 19}) {
            Twins full = new Twins(TOLD, () -> {
                SignSquares x = base();
                Told.tape(x, times("side 9;gap 0;", 29) + "side 7;" + times(" ", 16));
                x.back(gone);
                return x;
            });
            full.dueRefused("feed with " + gone + " free", x -> x.feed(0, 0, 0, 0, 0), NONE);
            full.dueRefused("back of too many", x -> x.back(401 - gone), NONE);
        }
    }

    /** The highest byte of a comes first: a fault tells which byte stands where. */
    private static void feedOfAllBytes() {
        for (int at = 0; at < 20; at++) {
            int[] v = {BLANKS, BLANKS, BLANKS, BLANKS, BLANKS};
            v[at / 4] ^= (' ' ^ 255) << 24 - 8 * (at % 4);
            SignSquares x = new SignSquares();
            due("feed", x.feed(v[0], v[1], v[2], v[3], v[4]), 20);
            due("the byte at " + at, x.text(), -4 - at);
            x.feed(BLANKS, BLANKS, BLANKS, BLANKS, BLANKS);
            due("feed behind", x.feed(v[0], v[1], v[2], v[3], v[4]), 40);
            due("the byte at 20 and " + at, x.text(), -24 - at);
        }
    }

    private static void back() {
        Twins empty = new Twins(TOLD, SignSquares::new);
        empty.dueRefused("back of 1 of none", x -> x.back(1), NONE);
        empty.dueRefused("back of -1 of none", x -> x.back(-1), NONE);
        empty.dueRefused("back of 0 of none", x -> x.back(0), 0);
        Twins taped = new Twins(TOLD, () -> {
            SignSquares x = base();
            Told.tape(x, "side 7;gap 3;");
            return x;
        });
        for (int n : new int[] {-1, -2, Integer.MIN_VALUE, 14, 15, 20, 400, Integer.MAX_VALUE}) {
            taped.dueRefused("back of " + n + " of 13", x -> x.back(n), NONE);
        }
        taped.dueRefused("back of 0 of 13", x -> x.back(0), 13);
        SignSquares x = base();
        Told.tape(x, "side 7;gap 3;");
        due("back of 6", x.back(6), 7);
        due("back of 8 of 7", x.back(8), NONE);
        due("the last ones go", x.text(), 0);
        due("those ahead stay", x.count(4), 7);
        due("those behind went", x.count(5), 1);
        Told.tape(x, "side 7;gap 3;");
        due("back of all", x.back(13), 0);
        due("back of one more", x.back(1), NONE);
        for (int n = 0; n < 20; n++) {
            x.feed(0, 0, 0, 0, 0);
        }
        due("back of 401 of 400", x.back(401), NONE);
        due("back of 400 of 400", x.back(400), 0);
    }

    // ---- 4: all anew, or all stays

    private static void emptyText() {
        dueText("", 0, "side 12;gap 1;");
        dueText(" ", 0, "side 12;gap 1;");
        dueText(times(" ", 400), 0, "side 12;gap 1;");
    }

    private static void textAnew() {
        dueText("side 3;", 0, "side 3;gap 1;");
        dueText("gap 3;", 0, "side 12;gap 3;");
        dueText("sign z 1 1;", 0, "side 12;gap 1;sign z 1 1;");
        dueText("sign z 1 1;line z;", 1, "side 12;gap 1;sign z 1 1;line z;");
        // a is told by the text before, not by this one
        dueFault("line a;", 5);
        SignSquares x = Told.of("side 5;side 25;");
        TOLD.due("a first text with a fault", Told.spelled(x, NONE, NONE), "side 12;gap 1;");
        x = Told.of("gap 3;sign a 1 1;line a-b;");
        TOLD.due("a first text with a fault in its line", Told.spelled(x, NONE, NONE), "side 12;gap 1;");
    }

    private static void textEmptiesTheTape() {
        SignSquares x = base();
        due("a good text", Told.tell(x, "side 5;"), 0);
        due("its tape is empty", x.count(7), 0);
        due("the empty tape is a text", x.text(), 0);
        due("all anew again", x.count(4), 12);
        due("a fault", Told.tell(x, "side 5;x"), -11);
        due("its tape is empty, too", x.count(7), 0);
        due("so none of it goes back", x.back(1), NONE);
        due("the next text begins at the tape's first byte", Told.tell(x, "x"), -4);
        due("the tape takes 400 again", Told.tell(x, times(" ", 400)), 0);
    }

    // ---- SIDE and GAP

    private static void sides() {
        for (int n = 0; n < 100; n++) {
            dueGood("side " + n + ";", n >= 1 && n <= 24 ? 0 : -9);
        }
        for (int n = 1; n <= 24; n++) {
            dueText("side " + n + ";", 0, "side " + n + ";gap 1;");
        }
        dueText("side 1;", 0, "side 1;gap 1;");
        dueText("side 24;", 0, "side 24;gap 1;");
        dueFault("side 0;", 5);
        dueFault("side 25;", 5);
        dueFault("side 99;", 5);
    }

    private static void gaps() {
        for (int n = 0; n < 100; n++) {
            dueGood("gap " + n + ";", n <= 3 ? 0 : -8);
        }
        dueText("gap 0;", 0, "side 12;gap 0;");
        dueText("gap 3;", 0, "side 12;gap 3;");
        dueFault("gap 4;", 4);
        dueFault("gap 99;", 4);
    }

    private static void latestSideAndGap() {
        dueText("side 3;side 24;side 5;", 0, "side 5;gap 1;");
        dueText("gap 3;gap 0;gap 2;", 0, "side 12;gap 2;");
        // one that is told behind a line holds for that line, too
        SignSquares x = Told.of("side 24;gap 3;sign a 6 1;line a*a;side 6;gap 0;");
        due("the latest gap", x.square(0, 0, 1), 12);
        due("the latest side, above", x.scale(0, 0, 0), 1);
        due("the latest side, below", x.scale(0, 0, 1), 2);
        dueFault("side 3;side 0;", 12);
        dueFault("gap 3;gap 4;", 10);
    }

    // ---- the TABLE

    private static void sizes() {
        for (int n = 0; n < 100; n++) {
            boolean good = n >= 1 && n <= 12;
            dueGood("sign a " + n + " 1;", good ? 0 : -11);
            dueGood("sign a 1 " + n + ";", good ? 0 : -13);
        }
        dueText("sign a 1 12;sign z 12 1;", 0, "side 12;gap 1;sign a 1 12;sign z 12 1;");
        dueFault("sign a 0 1;", 7);
        dueFault("sign a 1 0;", 9);
        dueFault("sign a 13 1;", 7);
        dueFault("sign a 1 13;", 9);
    }

    private static void cores() {
        for (int wide = 1; wide <= 12; wide++) {
            int high = 13 - wide;
            String sign = "sign a " + wide + " " + high;
            int at = sign.length() + 6;
            for (int n = 0; n <= 14; n++) {
                dueGood(sign + " core " + n + " 1;", n >= 1 && n <= wide ? 0 : -4 - at);
                dueGood(sign + " core 1 " + n + ";", n >= 1 && n <= high ? 0 : -6 - at);
            }
        }
        dueText("sign a 12 12 core 12 12;sign b 1 1 core 1 1;", 0,
                "side 12;gap 1;sign a 12 12 core 12 12;sign b 1 1 core 1 1;");
        dueFault("sign a 2 9 core 3 1;", 16);
        dueFault("sign a 9 2 core 1 3;", 18);
        dueFault("sign a 2 2 core 0 1;", 16);
        dueFault("sign a 2 2 core 1 0;", 18);
        dueFault("sign a 2 2 core 1;", 17);
        dueFault("sign a 2 2 core;", 15);
        dueFault("sign a 2 2 core 1 1 core 1 1;", 20);
    }

    private static void toldOnce() {
        dueFault("sign a 1 1;sign a 1 1;", 16);
        dueFault("sign a 1 1;sign b 1 1;sign a 2 2;", 27);
        dueFault("sign a 1 1;line a;sign a 1 1;", 23);
        dueText("sign b 1 1;sign a 1 1;", 0, "side 12;gap 1;sign a 1 1;sign b 1 1;");
    }

    private static void toldTwelve() {
        StringBuilder told = new StringBuilder();
        for (int n = 1; n <= 14; n++) {
            told.append("sign ").append((char) ('z' - n)).append(" 1 1;");
            dueGood(told.toString(), n <= 12 ? 0 : -4 - 11 * 12 - 5);
        }
        String twelve = told.substring(0, 11 * 12);
        SignSquares x = Told.of(twelve);
        due("twelve signs", x.count(3), 12);
        dueFault(twelve + "sign a 1 1;", 11 * 12 + 5);
        dueFault(twelve + "sign y 1 1;", 11 * 12 + 5);
        dueFault(twelve + "sign", 11 * 12 + 4);
        dueFault(twelve + "sign  ;", 11 * 12 + 6);
        dueGood(twelve + "line y*x;line n;", 2);
        dueFault(twelve + "line m;", 11 * 12 + 5);
    }

    private static void toldAhead() {
        dueFault("line a;sign a 1 1;", 5);
        dueFault("sign a 1 1;line a*b;sign b 1 1;", 18);
        dueText("sign a 1 1;line a;sign b 1 1;line b*a;", 2, "side 12;gap 1;sign a 1 1;sign b 1 1;line a;line b*a;");
        for (char l = 'a'; l <= 'z'; l++) {
            dueGood("sign " + l + " 1 1;line " + l + ";", 1);
            dueGood("sign " + l + " 1 1;line " + (l == 'z' ? 'a' : (char) (l + 1)) + ";", -20);
        }
    }

    // ---- LINES, SQUARES and SIGNS

    private static void lines() {
        for (int n = 0; n <= 6; n++) {
            dueGood("sign a 1 1;" + times("line a;", n), n <= 4 ? n : -4 - 11 - 28);
        }
        dueFault("sign a 1 1;" + times("line a;", 5), 39);
        dueFault("sign a 1 1;" + times("line a;", 4) + "line", 39);
        dueFault("sign a 1 1;" + times("line a;", 4) + "  line left a;", 41);
        dueGood("sign a 1 1;" + times("line a;", 4) + "side 3;sign b 1 1;gap 2;", 4);
        dueFault("sign a 1 1;line;", 15);
        dueFault("sign a 1 1;line left;", 20);
    }

    private static void squares() {
        for (int n = 1; n <= 11; n++) {
            // the - ahead of the 9th square is behind eight squares and seven of its like
            dueGood("sign a 1 1;line " + row("a", "-", n) + ";", n <= 8 ? 1 : -4 - 16 - 15);
        }
        SignSquares x = Told.of("sign a 1 1;line " + row("a", "-", 8) + ";");
        due("eight squares", x.line(0, 0), 8);
        dueFault("sign a 1 1;line " + row("a", "-", 9) + ";", 31);
        dueFault("sign a 1 1;line " + row("a", "-", 8) + "-", 31);
        dueFault("sign a 1 1;line " + row("a", "-", 8) + "  -;", 33);
        dueFault("sign a 1 1;line a-;", 18);
        dueFault("sign a 1 1;line -a;", 16);
        dueFault("sign a 1 1;line a--a;", 18);
        dueGood("sign a 1 1;" + times("line " + row("a", "-", 8) + ";", 4), 4);
    }

    private static void signsOfSquare() {
        String c = "sign c 2 2 core 1 1;line ";
        for (int n = 1; n <= 13; n++) {
            int fault = -4 - c.length();
            dueGood(c + row("c", "*", n) + ";", n <= 10 ? 1 : fault - 20);
            dueGood(c + row("c", ":", n) + ";", n <= 10 ? 1 : fault - 20);
            dueGood(c + "c<" + row("c", "*", n) + ">;", n <= 9 ? 1 : fault - 20);
            dueGood(c + "c<" + row("c", "*", 4) + ">*" + row("c", ":", n) + ";", n <= 5 ? 1 : fault - 21);
            dueGood(c + "(c:c:c)*(" + row("c", ":", n) + ");", n <= 7 ? 1 : fault - 23);
        }
        SignSquares x = Told.of(c + row("c", ":", 10) + ";");
        due("ten signs", x.square(0, 0, 0), 10);
        dueFault(c + row("c", "*", 11) + ";", c.length() + 20);
        dueFault(c + row("c", "*", 10) + "*d;", c.length() + 20);
        dueFault(c + row("c", "*", 10) + "*(c);", c.length() + 21);
        dueFault(c + row("c", "*", 10) + "*;", c.length() + 20);
        // each square has ten of its own
        dueGood(c + row(row("c", "*", 10), "-", 8) + ";", 1);
    }

    // ---- brackets

    private static void openBrackets() {
        String a = "sign a 1 1;line ";
        for (int n = 0; n <= 9; n++) {
            dueGood(a + times("(", n) + "a" + times(")", n) + ";", n <= 6 ? 1 : -4 - a.length() - 6);
        }
        dueText(a + "((((((a))))));", 1, "side 12;gap 1;sign a 1 1;line a;");
        dueFault(a + "(((((((a)))))));", a.length() + 6);
        dueFault(a + "(((((((", a.length() + 6);
        dueFault(a + "((((((", a.length() + 6);
        dueFault(a + "((((((a*(a))))));", a.length() + 8);
    }

    private static void openCores() {
        String c = "sign c 2 2 core 1 1;line ";
        for (int n = 0; n <= 6; n++) {
            dueGood(c + times("c<", n) + "c" + times(">", n) + ";", n <= 3 ? 1 : -4 - c.length() - 7);
        }
        dueText(c + "c<c<c<c>>>;", 1, "side 12;gap 1;sign c 2 2 core 1 1;line c<c<c<c>>>;");
        dueFault(c + "c<c<c<c<c>>>>;", c.length() + 7);
        dueFault(c + "c<c<c<c <", c.length() + 8);
    }

    /** i brackets, then j cores, then k brackets within: the first that is a seventh, or a fourth core, is the fault. */
    private static void openBoth() {
        String c = "sign c 2 2 core 1 1;line ";
        for (int i = 0; i <= 7; i++) {
            for (int j = 0; j <= 4; j++) {
                for (int k = 0; k <= 7; k++) {
                    String opening = times("(", i) + times("c<", j) + times("(", k);
                    String text = c + opening + "c" + times(")", k) + times(">", j) + times(")", i) + ";";
                    int fault = firstTooMany(opening);
                    dueGood(text, fault == NONE ? 1 : -4 - c.length() - fault);
                }
            }
        }
        dueFault(c + "((((((c<c>))))));", c.length() + 7);
        dueFault(c + "(((c<c<c<(c)>>>)));", c.length() + 9);
        dueGood(c + "(((c<c<c<c>>>)));", 1);
        dueGood(c + "c<c<c<(((c)))>>>;", 1);
    }

    private static int firstTooMany(String opening) {
        int open = 0;
        int cores = 0;
        for (int at = 0; at < opening.length(); at++) {
            char mark = opening.charAt(at);
            open += mark == 'c' ? 0 : 1;
            cores += mark == '<' ? 1 : 0;
            if (open > 6 || cores > 3) {
                return at;
            }
        }
        return NONE;
    }

    private static void closedBracketsAreOpenNoMore() {
        String c = "sign c 2 2 core 1 1;line ";
        dueGood(c + "((((((c))))))*((((((c))))))-((((((c))))));", 1);
        dueGood(c + "c<c<c<c>>>*c<c<c<c>>>-c<c<c<c>>>;", 1);
        dueGood(c + "c<c>*c<c>*c<c>*c<c>*c<c>;", 1);
        dueGood(c + "(c<c>)*(((((c))))):((c<(c<c>*(c))>));", 1);
        dueFault(c + "((c))*(((((((c)))))));", c.length() + 12);
    }

    private static void coreless() {
        String both = "sign a 2 2;sign c 2 2 core 1 1;line ";
        dueFault(both + "a<a>;", both.length() + 1);
        dueFault(both + "a  <a>;", both.length() + 3);
        dueFault(both + "c<a<c>>;", both.length() + 3);
        dueFault(both + "<a>;", both.length());
        dueFault(both + "(c)<a>;", both.length() + 3);
        dueFault(both + "c<a><a>;", both.length() + 4);
        dueFault(both + "c<>;", both.length() + 2);
        dueGood(both + "c<a>;", 1);
        dueGood(both + "c;", 1);
    }

    /** From the first letter to the last one each can be told, with a core or without, and can hold what it is told to hold. */
    private static void everyLetter() {
        for (char l = 'a'; l <= 'z'; l++) {
            String sign = "sign " + l + " 8 8 core 4 4;";
            String line = "line " + l + "<" + l + "<" + l + ":" + l + ">>*" + l + ";";
            dueText(sign + line, 1, "side 12;gap 1;" + sign + line);
            SignSquares x = Told.of(sign + line);
            due("inside " + l, x.inside(0, 0, 3), 1);
            due("signs inside " + l, x.square(0, 0, 3), 3);
            due("how often " + l, x.sign(l - 'a', 4), 5);
            due("letter " + l, x.letter(0, 0, 4), l - 'a');
            due("outer signs " + l, x.ways(0, 0), 2);
            TOLD.due("release out of " + l, x.release(0, 0, 0), true);
            TOLD.due("released out of " + l, Told.spelled(x, 0, NONE), "line " + l + "*" + l + "-" + l + "<" + l + ":" + l + ">;");
            TOLD.due("insert into " + l, x.insert(0, 0, 1), true);
            TOLD.due("inserted into " + l, Told.spelled(x, 0, 0), l + "*" + l + "<" + l + "<" + l + ":" + l + ">>");
        }
    }

    private static void dueNormal(String group, String want) {
        SignSquares x = Told.of("sign a 4 6;sign b 3 2;sign c 8 8 core 6 4;line " + group + "-" + want + ";");
        TOLD.due("normal " + group, Told.spelled(x, 0, 0), want);
        due("the same as " + group, x.same(0, 0, 0, 1), 1);
        for (int what = 0; what < 8; what++) {
            due("square, what " + what + ", of " + group, x.square(0, 0, what), x.square(0, 1, what));
        }
    }

    /** "Brackets are just around GROUPS of two ROWS or more that are one PART of several." */
    private static void normal() {
        SignSquares x = Told.of("sign a 4 6;line (a:a):a-a:(a:a)-(a*a)*a-a*(a*a);");
        for (int square = 0; square < 4; square++) {
            due("rows of square " + square, x.square(0, square, 4), square < 2 ? 3 : 1);
            due("parts of square " + square, x.square(0, square, 5), square < 2 ? 1 : 3);
        }
        dueNormal("(a)", "a");
        dueNormal("((a))", "a");
        dueNormal("(a)*(b)", "a*b");
        dueNormal("(a):(b)", "a:b");
        dueNormal("(a*b)", "a*b");
        dueNormal("(a:b)", "a:b");
        dueNormal("a*(b*c)", "a*b*c");
        dueNormal("(a*b)*(b*a)", "a*b*b*a");
        dueNormal("(a*(b*(c*(a*b))))*c", "a*b*c*a*b*c");
        dueNormal("a:(b:c)", "a:b:c");
        dueNormal("(a:b):(c:a)", "a:b:c:a");
        dueNormal("(((a:b):c):a):b", "a:b:c:a:b");
        dueNormal("a:(b*c)", "a:b*c");
        dueNormal("(a:b)*c", "(a:b)*c");
        dueNormal("((a:b))*c", "(a:b)*c");
        dueNormal("((a:b)*c)", "(a:b)*c");
        dueNormal("((((((a:b))))))*c", "(a:b)*c");
        dueNormal("((a:b):c)*a", "(a:b:c)*a");
        dueNormal("(a:((b:c)))*b", "(a:b:c)*b");
        dueNormal("(a:(b:c)*a)*b", "(a:(b:c)*a)*b");
        dueNormal("(a:((b:c)*a))*b", "(a:(b:c)*a)*b");
        dueNormal("a*((b:c)*a)*b", "a*(b:c)*a*b");
        dueNormal("(a*(b:c)):a", "a*(b:c):a");
        dueNormal("c<(a)>", "c<a>");
        dueNormal("c<(a:b)>", "c<a:b>");
        dueNormal("c<((a*b)*a)>", "c<a*b*a>");
        dueNormal("(c<(a:b)*(a)>)", "c<(a:b)*a>");
        dueNormal("(c<a:b>)*(c<a:b>:a)", "c<a:b>*(c<a:b>:a)");
    }

    // ---- WORDS, N, blanks

    private static void words() {
        for (String word : new String[] {"s", "sid", "sides", "sidee", "ga", "gaps", "sig", "signs", "lin", "lines",
            "left", "core", "a", "sidegap", "Side", "SIDE"}) {
            dueFault(word + " 1;", 0);
            dueFault("  " + word, 2);
        }
        dueFaultOfAnyOtherWord("", "side", " 3;");
        dueFaultOfAnyOtherWord("", "gap", " 3;");
        dueFaultOfAnyOtherWord("", "sign", " a 1 1;");
        dueFaultOfAnyOtherWord("sign a 1 1;", "line", " a;");
        dueFaultOfAnyOtherWord("sign a 1 1;line ", "left", " a;");
        dueFaultOfAnyOtherWord("sign a 1 1 ", "core", " 1 1;");
        dueFault("sign a 1 1;line lef a;", 16);
        dueFault("sign a 1 1;line left left a;", 21);
        dueFault("sign a 1 1;line right a;", 16);
        dueFault("sign a 1 1 cores 1 1;", 11);
        dueFault("sign a 1 1 cor 1 1;", 11);
        dueFault("sign aa 1 1;", 5);
        dueFault("sign A 1 1;", 5);
        dueFault("sign a 1 1;line aa;", 16);
        dueFault("sign a 1 1;line a a;", 18);
        dueFault("sign a 1 1;line A;", 16);
        dueFault("sign a 1 1;line side;", 16);
    }

    /** One letter is another one, is a capital one, is gone, or comes twice. */
    private static void dueFaultOfAnyOtherWord(String ahead, String word, String behind) {
        dueGood(ahead + word + behind, ahead.contains("line") || word.equals("line") ? 1 : 0);
        for (int i = 0; i < word.length(); i++) {
            String first = word.substring(0, i);
            String last = word.substring(i + 1);
            dueGood(ahead + first + "z" + last + behind, -4 - ahead.length());
            dueGood(ahead + first + last + behind, -4 - ahead.length());
            dueGood(ahead + first + word.charAt(i) + word.charAt(i) + last + behind, -4 - ahead.length());
            // a capital letter ends the word ahead of it, which is another one then
            dueGood(ahead + first + word.substring(i, i + 1).toUpperCase() + last + behind, -4 - ahead.length());
        }
    }

    private static void numbers() {
        dueText("side 01;gap 00;", 0, "side 1;gap 0;");
        dueText("side 08;gap 03;", 0, "side 8;gap 3;");
        dueText("sign a 01 09 core 01 08;", 0, "side 12;gap 1;sign a 1 9 core 1 8;");
        dueFault("side 00;", 5);
        dueFault("side 001;", 5);
        dueFault("side 024;", 5);
        dueFault("side 100;", 5);
        dueFault("side 4294967297;", 5);
        dueFault("gap 000;", 4);
        dueFault("gap 4294967296;", 4);
        dueFault("sign a 001 1;", 7);
        dueFault("sign a 1 001;", 9);
        dueFault("sign a 2 2 core 001 1;", 16);
        dueFault("sign a 2 2 core 1 001;", 18);
        dueFault("side -1;", 5);
        dueFault("side +1;", 5);
        dueFault("side 1.5;", 6);
        dueFault("side 1 1;", 7);
        dueFault("side ;", 5);
        dueFault("sign a 1 1 1;", 11);
        dueFault("sign a 1;", 8);
        dueFault("sign a;", 6);
        dueFault("sign 1;", 5);
        dueFault("sign a b 1;", 7);
    }

    private static void blanks() {
        dueText("  side  3  ;  gap  2  ;  sign  c  4  4  core  2  2  ;  line  left  c  <  (  c  :  c  )  *  c  >  -  c  ;  ",
                1, "side 3;gap 2;sign c 4 4 core 2 2;line left c<(c:c)*c>-c;");
        dueText("side 3;gap 2;sign c 4 4 core 2 2;line left(c);", 1, "side 3;gap 2;sign c 4 4 core 2 2;line left c;");
        dueText("sign c 4 4;line(c:c)*c;", 1, "side 12;gap 1;sign c 4 4;line(c:c)*c;");
        // within a word or number a blank makes two of it
        dueFault("si de 3;", 0);
        dueFault("side 1 2;", 7);
        dueFault("side 3;;", 7);
        dueFault("side 3; ;", 8);
        dueFault(";", 0);
    }

    /** "One at least between two WORDS or N (else the second one can't stand there)." */
    private static void blanksBetween() {
        dueFault("side3;", 4);
        dueFault("gap3;", 3);
        dueFault("side 3gap 1;", 6);
        dueFault("signa 1 1;", 0);
        dueFault("sign a1 1;", 6);
        dueFault("sign a 1 1core 1 1;", 10);
        dueFault("sign a 1 1 core1 1;", 15);
        dueFault("sign a 1 1;linea;", 11);
        dueFault("sign a 1 1;lineleft a;", 11);
        dueFault("sign a 1 1;line lefta;", 16);
        dueFault("sign a 1 1;line a1;", 17);
        dueFault("sign a 1 1;line 1;", 16);
    }

    /** Behind a beginning, each byte that can stand there, and what each other one's fault is. */
    private static void everyByteAtEveryKindOfPlace() {
        String a = "sign a 4 4;line ";
        String c = "sign c 4 4 core 2 2;line ";
        dueBytes("", " ", "", 0);
        dueBytes("side 3;", " ", "", 7);
        dueBytes("side", " ", "", 4);
        dueBytes("side ", " 123456789", "", 5);
        dueBytes("side 1", " 0123456789", ";", 6);
        dueBytes("side 2", " 01234", ";", 6);
        dueBytes("side 3", " ", ";", 6);
        dueBytes("gap ", " 0123", "", 4);
        dueBytes("gap 0", " 0123", ";", 5);
        dueBytes("gap 1", " ", ";", 5);
        dueBytes("sign", " ", "", 4);
        dueBytes("sign ", " abcdefghijklmnopqrstuvwxyz", "", 5);
        dueBytes("sign a", " ", "", 6);
        dueBytes("sign a ", " 123456789", "", 7);
        dueBytes("sign a 1", " 012", "", 8);
        dueBytes("sign a 1 1", " 012", ";", 10);
        dueBytes("sign a 1 1 ", " ", ";", 11);
        dueBytes("sign a 4 4 core", " ", "", 15);
        dueBytes("sign a 4 4 core ", " 1234", "", 16);
        dueBytes("sign a 4 4 core 1 ", " 1234", "", 18);
        dueBytes("sign a 4 4 core 1 1 ", " ", ";", 20);
        dueBytes("sign a 4 4;line", " (", "", 15);
        dueBytes(a, " (a", "", 16);
        dueBytes(a + "left", " (", "", 20);
        dueBytes(a + "left ", " (a", "", 21);
        dueBytes(a + "a", " *:-", ";", 17);
        dueBytes(a + "a ", " *:-", ";", 18);
        dueBytes(a + "a*", " (a", "", 18);
        dueBytes(a + "a:", " (a", "", 18);
        dueBytes(a + "a-", " (a", "", 18);
        dueBytes(a + "(", " (a", "", 17);
        dueBytes(a + "(a", " *:)", "", 18);
        dueBytes(a + "(a)", " *:-", ";", 19);
        dueBytes(c + "c", " *:-<", ";", 26);
        dueBytes(c + "c<", " (c", "", 27);
        dueBytes(c + "c<c", " *:<>", "", 28);
        dueBytes(c + "c<(c", " *:<)", "", 29);
        dueBytes(c + "c<(c)", " *:>", "", 30);
        dueBytes(c + "c<c>", " *:-", ";", 29);
        dueBytes(c + "(c<c>", " *:)", "", 30);
        dueBytes(a + "a;", " ", "", 18);
    }

    /** Those that go on end too early; one that ends a good text; of all others the fault is that byte, or its word's first. */
    private static void dueBytes(String ahead, String goesOn, String ends, int at) {
        for (int b = 0; b < 256; b++) {
            char sign = (char) b;
            boolean good = ends.indexOf(sign) >= 0 || sign == ' ' && (ahead.isEmpty() || ahead.endsWith(";"));
            boolean on = goesOn.indexOf(sign) >= 0;
            String text = ahead + sign;
            int lines = ahead.contains("line") ? 1 : 0;
            due("byte " + b + " behind '" + ahead + "'", Told.tell(new SignSquares(), text),
                    good ? lines : -4 - (on ? text.length() : wordAhead(ahead, sign, at)));
        }
    }

    private static int wordAhead(String ahead, char sign, int at) {
        int first = at;
        boolean letter = sign >= 'a' && sign <= 'z';
        boolean digit = sign >= '0' && sign <= '9';
        while (first > 0 && (letter && Character.isLowerCase(ahead.charAt(first - 1))
                || digit && Character.isDigit(ahead.charAt(first - 1)))) {
            first--;
        }
        return first;
    }

    private static void bracketsThatDoNotMatch() {
        String c = "sign c 4 4 core 2 2;line ";
        int n = c.length();
        dueFault(c + "c);", n + 1);
        dueFault(c + "c>;", n + 1);
        dueFault(c + "(c>;", n + 2);
        dueFault(c + "c<c);", n + 3);
        dueFault(c + "(c;", n + 2);
        dueFault(c + "c<c;", n + 3);
        dueFault(c + "(c<c)>;", n + 4);
        dueFault(c + "c<(c>);", n + 4);
        dueFault(c + "(c-c);", n + 2);
        dueFault(c + "c<c-c>;", n + 3);
        dueFault(c + "();", n + 1);
        dueFault(c + "(c)(c);", n + 3);
        dueFault(c + "(c)c;", n + 3);
        dueFault(c + "c(c);", n + 1);
        dueFault(c + "c<c>c;", n + 4);
        dueFault(c + "c<c>(c);", n + 4);
    }

    // ---- "the TEXT's length, if it ends too early"

    private static void everyEnd() {
        String[] tokens = {"side", "12", ";", "gap", "2", ";", "sign", "c", "8", "12", "core", "6", "10", ";", "line",
            "left", "c", "<", "c", "*", "(", "c", ":", "c", ")", ">", "-", "c", ";", "line", "(", "c", ")", ";"};
        String text = "";
        int lines = 0;
        boolean ended = true;
        for (String token : tokens) {
            dueEnd(text, ended, lines);
            text += " ";
            dueEnd(text, ended, lines);
            for (int n = 1; n < token.length(); n++) {
                boolean word = Character.isLowerCase(token.charAt(0));
                // half a word is another one, half a number is a number
                dueGood(text + token.substring(0, n), -4 - text.length() - (word ? 0 : n));
            }
            text += token;
            ended = token.equals(";");
            lines += ended && (text.endsWith("c ;") || text.endsWith(") ;")) ? 1 : 0;
        }
        dueEnd(text, ended, 2);
        dueFault("side", 4);
        dueFault("side 12", 7);
        dueFault("side 12  ", 9);
        dueFault("sign c 4 4;line c", 17);
        dueFault("sign c 4 4;line (c", 18);
        dueFault("sid", 0);
    }

    private static void dueEnd(String text, boolean ended, int lines) {
        dueGood(text, ended ? lines : -4 - text.length());
    }

    private static void longestText() {
        dueFault("side" + times(" ", 396), 400);
        dueFault(times(" ", 399) + "x", 399);
        dueFault(times(" ", 393) + "side 12", 400);
        dueText(times(" ", 393) + "side 9;", 0, "side 9;gap 1;");
        dueText(times("side 9;gap 0;", 30) + "side 7;   ", 0, "side 7;gap 0;");
    }
}
