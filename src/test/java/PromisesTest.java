/** Each promise by itself, with answers worked out by hand from the document. */
public final class PromisesTest {
    private static final Told TOLD = new Told();
    private static final int NONE = SignSquares.NONE;
    private static final String SIGNS = "sign a 4 6;sign b 3 2;sign c 8 8 core 6 4;";
    private static final String BASE = SIGNS + "line a*b-c<a:b>;line left b*b*b*a;";

    public static void main(String[] args) {
        newObject();
        feed();
        back();
        textGood();
        textFaults();
        textLimits();
        textState();
        exchange();
        turn();
        join();
        part();
        swap();
        insert();
        release();
        move();
        mirror();
        arrange();
        sideAndGap();
        undo();
        sign();
        lineAsked();
        square();
        scale();
        letterAndInside();
        box();
        boxInside();
        at();
        column();
        covered();
        smallest();
        same();
        tightestAndLeast();
        ways();
        best();
        joined();
        spell();
        count();
        TOLD.end();
    }

    private static void due(String what, long got, long want) {
        TOLD.due(what, got, want);
    }

    private static void due(String what, boolean got, boolean want) {
        TOLD.due(what, got, want);
    }

    /** A line's text is due, without "line " and ";". */
    private static void dueLine(String what, SignSquares x, int line, String want) {
        TOLD.due(what, Told.spelled(x, line, NONE), ("line " + want + ";").replace(" (", "("));
    }

    private static SignSquares lineOf(String line) {
        return Told.of(SIGNS + "line " + line + ";");
    }

    private static void dueFraction(String what, long above, long below, long wantAbove, long wantBelow) {
        due(what + ", above", above, wantAbove);
        due(what + ", below", below, wantBelow);
    }

    // ---- 1 .. 4

    private static void newObject() {
        SignSquares x = new SignSquares();
        TOLD.due("a new object", Told.spelled(x, NONE, NONE), "side 12;gap 1;");
        int[] counts = {0, 0, 0, 0, 12, 1, 0, 0, 0};
        for (int what = 0; what < counts.length; what++) {
            due("a new object's count " + what, x.count(what), counts[what]);
        }
        for (int letter = 0; letter < 26; letter++) {
            due("a new object's sign " + letter, x.sign(letter, 0), -2);
        }
    }

    private static void feed() {
        SignSquares x = new SignSquares();
        int[] v = new int[5];
        String text = "side 5; gap 2;      ";
        for (int i = 0; i < 20; i++) {
            v[i / 4] |= text.charAt(i) << (24 - 8 * (i % 4));
        }
        due("feed", x.feed(v[0], v[1], v[2], v[3], v[4]), 20);
        due("text of the bytes in their order", x.text(), 0);
        due("side of the bytes", x.count(4), 5);
        due("gap of the bytes", x.count(5), 2);
        for (int n = 20; n <= 400; n += 20) {
            due("feed " + n, x.feed(538976288, 538976288, 538976288, 538976288, 538976288), n);
        }
        due("feed to 420", x.feed(0, 0, 0, 0, 0), NONE);
        due("tape stays", x.count(7), 400);
        x.back(19);
        due("feed to 401", x.feed(0, 0, 0, 0, 0), NONE);
        due("tape stays", x.count(7), 381);
        x.back(1);
        due("feed to 400", x.feed(538976288, 538976288, 538976288, 538976288, 538976288), 400);
        due("blanks alone are a text", x.text(), 0);
        x.feed(-1, 0, 0, 0, 0);
        due("a byte of 255", x.text(), -4);
        x.feed(0x20ffffff, 0, 0, 0, 0);
        due("255 behind a blank", x.text(), -5);
    }

    private static void back() {
        SignSquares x = new SignSquares();
        due("back of none", x.back(0), 0);
        due("back of too many", x.back(1), NONE);
        x.feed(0, 0, 0, 0, 0);
        due("back below 0", x.back(-1), NONE);
        due("back far below 0", x.back(Integer.MIN_VALUE), NONE);
        due("back of 21", x.back(21), NONE);
        due("nothing went", x.count(7), 20);
        due("back of 5", x.back(5), 15);
        due("back of all", x.back(15), 0);
    }

    private static void dueText(String text, int want) {
        due("text '" + text + "'", Told.tell(new SignSquares(), text), want);
    }

    private static void textGood() {
        dueText("", 0);
        dueText("   ", 0);
        dueText("side 1;side 24;gap 0;gap 3;", 0);
        dueText("  side   7  ;  gap   02 ; ", 0);
        dueText("sign a 1 1;line a;", 1);
        dueText("sign a 1 1;line a;sign b 2 2;line b*a;", 2);
        dueText("sign a 1 1;line left a;line(a);line left(a);", 3);
        dueText("sign a 12 12 core 12 12;line ( a < a : a > ) * a - a ;", 1);
        dueText("sign a 2 2 core 1 1;line ((((((a))))));", 1);
        dueText("sign a 2 2 core 1 1;line (((a<a<a<a>>>)));", 1);
        dueText("sign a 2 2;line a*a:a*a*a:a:a*a*(a);", 1);
    }

    private static void dueFault(String text, int at) {
        dueText(text, -4 - at);
    }

    private static void textFaults() {
        dueFault("x", 0);
        dueFault(";", 0);
        dueFault("  ;", 2);
        dueFault("sid 1;", 0);
        dueFault("sides 1;", 0);
        dueFault("Side 1;", 0);
        dueFault("side;", 4);
        dueFault("side", 4);
        dueFault("side   ", 7);
        dueFault("side x;", 5);
        dueFault("side 12", 7);
        dueFault("side 12 ", 8);
        dueFault("side 1 2;", 7);
        dueFault("side 100;", 5);
        dueFault("side -1;", 5);
        dueFault("side12;", 4);
        dueFault("gap 1x;", 5);
        dueFault("gap 4;", 4);
        dueFault("gap 000;", 4);
        dueFault("side 1;;", 7);
        dueFault("sign;", 4);
        dueFault("sign ab 1 1;", 5);
        dueFault("sign 1 1 1;", 5);
        dueFault("sign a1 1;", 6);
        dueFault("sign a 0 1;", 7);
        dueFault("sign a 13 1;", 7);
        dueFault("sign a 1 13;", 9);
        dueFault("sign a 1;", 8);
        dueFault("sign a 1 1 1;", 11);
        dueFault("sign a 1 1core 1 1;", 10);
        dueFault("sign a 1 1 cor 1 1;", 11);
        dueFault("sign a 1 1 core1 1;", 15);
        dueFault("sign a 2 3 core 3 3;", 16);
        dueFault("sign a 2 3 core 2 4;", 18);
        dueFault("sign a 2 3 core 2;", 17);
        dueFault("sign a 2 3 core 0 1;", 16);
        dueFault("sign a 1 1;sign a 1 1;", 16);
        dueFault("sign a 1 1;line b;", 16);
        dueFault("line a;sign a 1 1;", 5);
        dueFault("sign a 1 1;linea;", 11);
        dueFault("sign a 1 1;line;", 15);
        dueFault("sign a 1 1;line lef a;", 16);
        dueFault("sign a 1 1;line left;", 20);
        dueFault("sign a 1 1;line left left a;", 21);
        dueFault("sign a 1 1;line aa;", 16);
        dueFault("sign a 1 1;line a a;", 18);
        dueFault("sign a 1 1;line a1;", 17);
        dueFault("sign a 1 1;line a*;", 18);
        dueFault("sign a 1 1;line a:;", 18);
        dueFault("sign a 1 1;line a-;", 18);
        dueFault("sign a 1 1;line *a;", 16);
        dueFault("sign a 1 1;line ();", 17);
        dueFault("sign a 1 1;line (a;", 18);
        dueFault("sign a 1 1;line (a-a);", 18);
        dueFault("sign a 1 1;line a);", 17);
        dueFault("sign a 1 1;line a>;", 17);
        dueFault("sign a 1 1;line a<a>;", 17);
        dueFault("sign a 2 2 core 1 1;line a<a);", 28);
        dueFault("sign a 2 2 core 1 1;line (a<a)>;", 29);
        dueFault("sign a 2 2 core 1 1;line a<>;", 27);
        dueFault("sign a 2 2 core 1 1;line a<a><a>;", 29);
        dueFault("sign a 2 2 core 1 1;line (a)<a>;", 28);
        dueFault("sign a 2 2 core 1 1;line <a>;", 25);
        dueFault("sign a 1 1;line a", 17);
        dueFault("sign a 1 1;line a;x", 18);
    }

    private static void textLimits() {
        StringBuilder twelve = new StringBuilder();
        for (char l = 'a'; l < 'm'; l++) {
            twelve.append("sign ").append(l).append(" 1 1;");
        }
        dueText(twelve.toString(), 0);
        dueFault(twelve + "sign z 1 1;", 12 * 11 + 5);
        dueFault(twelve + "sign a 1 1;", 12 * 11 + 5);
        String one = "sign a 2 2 core 1 1;";
        dueText(one + "line a;line a;line a;line a;", 4);
        dueFault(one + "line a;line a;line a;line a;line a;", 48);
        dueText(one + "line a-a-a-a-a-a-a-a;", 1);
        dueFault(one + "line a-a-a-a-a-a-a-a-a;", 40);
        dueFault(one + "line a-a-a-a-a-a-a-a -;", 41);
        dueText(one + "line a*a*a*a*a*a*a*a*a*a-a;", 1);
        dueFault(one + "line a*a*a*a*a*a*a*a*a*a*a;", 45);
        dueFault(one + "line a<a*a*a*a*a*a*a*a*a*a>;", 45);
        dueFault(one + "line (((((((a;", 31);
        dueFault(one + "line ((((((a<a>))))));", 32);
        dueFault(one + "line a<a<a<a<a>>>>;", 32);
        dueFault(one + "line a<a<a<(((((a)))))>>>;", 34);
        dueText(one + "line (((((a)))))*(((((a)))));", 1);
    }

    private static void textState() {
        SignSquares x = Told.of("side 20;gap 3;" + BASE);
        x.mirror(0);
        x.turn(0, 0);
        String before = Told.spelled(x, NONE, NONE);
        due("a fault", Told.tell(x, "side 4;sign z 1 1;line z;x"), -4 - 25);
        due("the tape is empty behind a fault", x.count(7), 0);
        TOLD.due("all else stays", Told.spelled(x, NONE, NONE), before);
        due("acts stay behind a fault", x.count(6), 2);
        due("an act undone behind a fault", x.undo(), 1);
        due("a new text", Told.tell(x, "sign z 2 3;line z;"), 1);
        due("the tape is empty behind a text", x.count(7), 0);
        TOLD.due("all is anew", Told.spelled(x, NONE, NONE), "side 12;gap 1;sign z 2 3;line z;");
        due("acts are forgotten", x.count(6), 0);
        due("none can be undone", x.undo(), NONE);
        due("an empty text", x.text(), 0);
        TOLD.due("nothing is left", Told.spelled(x, NONE, NONE), "side 12;gap 1;");
    }

    // ---- 5 .. 17

    private static void exchange() {
        SignSquares x = Told.of(SIGNS + "sign d 5 5 core 1 1;line a*b-c<a:b>;");
        due("exchange", x.exchange(0, 0, 1, 0), true);
        dueLine("exchanged", x, 0, "a*a-c<a:b>");
        due("one inside", x.exchange(0, 1, 2, 2), true);
        dueLine("exchanged inside", x, 0, "a*a-c<a:c>");
        due("one that holds", x.exchange(0, 1, 0, 3), true);
        dueLine("exchanged around", x, 0, "a*a-d<a:c>");
        due("one that holds by one without core", x.exchange(0, 1, 0, 0), false);
        due("it is so", x.exchange(0, 0, 0, 0), false);
        due("not in the table", x.exchange(0, 0, 0, 4), false);
        due("no letter", x.exchange(0, 0, 0, 26), false);
        due("no letter below", x.exchange(0, 0, 0, -1), false);
        due("no such sign", x.exchange(0, 0, 2, 1), false);
        due("no such sign below", x.exchange(0, 0, -1, 1), false);
        due("no such square", x.exchange(0, 2, 0, 1), false);
        due("no such line", x.exchange(1, 0, 0, 1), false);
        due("three acts", x.count(6), 3);
    }

    private static void turn() {
        SignSquares x = lineOf("a*b:c-(a:b)*c<a*b>:b-c<a:b>-a");
        due("turn", x.turn(0, 0), true);
        due("turn with brackets", x.turn(0, 1), true);
        dueLine("turned", x, 0, "(a:b)*c-(a*b:c<a*b>)*b-c<a:b>-a");
        due("turn back", x.turn(0, 0), true);
        due("turn back with brackets", x.turn(0, 1), true);
        dueLine("turned back", x, 0, "a*b:c-(a:b)*c<a*b>:b-c<a:b>-a");
        due("one part", x.turn(0, 2), false);
        due("one sign", x.turn(0, 3), false);
        due("no such square", x.turn(0, 4), false);
        due("no such line", x.turn(-1, 0), false);
        due("four acts", x.count(6), 4);
    }

    private static void join() {
        SignSquares x = lineOf("a:b-a*b-b-c:c");
        due("join", x.join(0, 0), true);
        dueLine("joined", x, 0, "(a:b)*a*b-b-c:c");
        due("join the next", x.join(0, 1), true);
        dueLine("joined the next", x, 0, "(a:b)*a*b-b*(c:c)");
        due("the last has none behind it", x.join(0, 1), false);
        due("no such square", x.join(0, -1), false);
        due("no such line", x.join(1, 0), false);
        due("join all", x.join(0, 0), true);
        dueLine("joined all", x, 0, "(a:b)*a*b*b*(c:c)");
        x = lineOf("a*a*a*a*a-b*b*b*b*b*b-c");
        due("eleven signs", x.join(0, 0), false);
        due("seven signs", x.join(0, 1), true);
        x = lineOf("a:a:a:a:a-b:b:b:b:b");
        due("ten signs", x.join(0, 0), true);
        dueLine("joined ten", x, 0, "(a:a:a:a:a)*(b:b:b:b:b)");
    }

    private static void part() {
        SignSquares x = lineOf("a:b*c:b-(a:b)*c-a:(b:c)*b");
        due("part rows", x.part(0, 0), true);
        dueLine("parted rows", x, 0, "a-b*c:b-(a:b)*c-a:(b:c)*b");
        due("part parts", x.part(0, 2), true);
        dueLine("parted parts", x, 0, "a-b*c:b-a:b-c-a:(b:c)*b");
        due("part off a row", x.part(0, 4), true);
        dueLine("parted off", x, 0, "a-b*c:b-a:b-c-a-(b:c)*b");
        due("one sign", x.part(0, 0), false);
        due("no such square", x.part(0, 6), false);
        due("no such line", x.part(1, 0), false);
        due("to seven", x.part(0, 1), true);
        due("to eight", x.part(0, 1), true);
        due("to nine", x.part(0, 4), false);
        dueLine("eight squares", x, 0, "a-b-c-b-a:b-c-a-(b:c)*b");
        x = lineOf("c<a*b>-a*(b:c)");
        due("one part", x.part(0, 0), false);
        due("the others normal", x.part(0, 1), true);
        dueLine("parted normal", x, 0, "c<a*b>-a-b:c");
    }

    private static void swap() {
        SignSquares x = lineOf("a:b*b:c<a>-(a:b)*c*b-c<a*b>");
        due("swap rows", x.swap(0, 0, 0, 2), true);
        due("swap parts", x.swap(0, 1, 2, 0), true);
        dueLine("swapped", x, 0, "c<a>:b*b:a-b*c*(a:b)-c<a*b>");
        due("swap neighbours", x.swap(0, 0, 0, 1), true);
        dueLine("swapped neighbours", x, 0, "b*b:c<a>:a-b*c*(a:b)-c<a*b>");
        due("both are one", x.swap(0, 0, 1, 1), false);
        due("no such row", x.swap(0, 0, 0, 3), false);
        due("no such part", x.swap(0, 1, -1, 0), false);
        due("one part only", x.swap(0, 2, 0, 1), false);
        due("one part twice", x.swap(0, 2, 0, 0), false);
        due("no such square", x.swap(0, 3, 0, 1), false);
        due("no such line", x.swap(4, 0, 0, 1), false);
        due("three acts", x.count(6), 3);
    }

    private static void insert() {
        SignSquares x = lineOf("a*c-a:b-b");
        due("no core", x.insert(0, 0, 0), false);
        due("insert", x.insert(0, 0, 1), true);
        dueLine("inserted", x, 0, "a*c<a:b>-b");
        due("something is inside", x.insert(0, 0, 1), false);
        due("no such sign", x.insert(0, 0, 4), false);
        due("no such sign below", x.insert(0, 0, -1), false);
        due("no square behind", x.insert(0, 1, 0), false);
        due("no such square", x.insert(0, 2, 0), false);
        due("no such line", x.insert(1, 0, 0), false);
        x = lineOf("c<c<c>>-c<a>-b");
        due("four within one another", x.insert(0, 0, 2), false);
        due("one act less deep", x.release(0, 1, 0), true);
        due("three within one another", x.insert(0, 0, 2), true);
        dueLine("inserted third", x, 0, "c<c<c<c>>>-a-b");
        due("fourth of one sign", x.insert(0, 0, 3), false);
        x = lineOf("c*c*c*c*c-a:a:a:a:a:a-b*b*b*b");
        due("eleven signs", x.insert(0, 0, 0), false);
        due("ten signs", x.part(0, 1), true);
        due("ten signs", x.move(0, 1, 0), true);
        due("ten signs", x.insert(0, 1, 4), true);
        dueLine("inserted five", x, 0, "a-c*c*c*c*c<a:a:a:a:a>-b*b*b*b");
    }

    private static void release() {
        SignSquares x = lineOf("c<a:b>-c<c<a*b>:b>*b");
        due("release", x.release(0, 0, 0), true);
        dueLine("released", x, 0, "c-a:b-c<c<a*b>:b>*b");
        due("release within", x.release(0, 2, 1), true);
        dueLine("released within", x, 0, "c-a:b-c<c:b>*b-a*b");
        due("nothing is inside", x.release(0, 0, 0), false);
        due("no such sign", x.release(0, 2, 4), false);
        due("no such sign below", x.release(0, 2, -1), false);
        due("no such square", x.release(0, 4, 0), false);
        due("no such line", x.release(1, 0, 0), false);
        x = lineOf("a-a-a-a-a-a-a-c<a>");
        due("eight squares", x.release(0, 7, 0), false);
        due("nothing happened", x.count(6), 0);
    }

    private static void move() {
        SignSquares x = lineOf("a-b-c-a*b");
        due("move on", x.move(0, 0, 2), true);
        dueLine("moved on", x, 0, "b-c-a-a*b");
        due("move back", x.move(0, 3, 0), true);
        dueLine("moved back", x, 0, "a*b-b-c-a");
        due("move to the next", x.move(0, 1, 2), true);
        dueLine("moved to the next", x, 0, "a*b-c-b-a");
        due("it is that", x.move(0, 1, 1), false);
        due("no such place", x.move(0, 1, 4), false);
        due("no such place below", x.move(0, 1, -1), false);
        due("no such square", x.move(0, 4, 0), false);
        due("no such line", x.move(1, 0, 1), false);
        due("three acts", x.count(6), 3);
    }

    private static void mirror() {
        SignSquares x = lineOf("a*b-c");
        due("mirror", x.mirror(0), true);
        dueLine("mirrored", x, 0, "left a*b-c");
        due("its first sign's left, 12 less 2 and 4", x.box(0, 0, 0, 0, 0), 6);
        due("mirror again", x.mirror(0), true);
        dueLine("mirrored again", x, 0, "a*b-c");
        due("no such line", x.mirror(1), false);
        due("no such line below", x.mirror(-1), false);
        due("two acts", x.count(6), 2);
    }

    private static void arrange() {
        SignSquares x = Told.of(SIGNS + "line b*b*b*a-a*a*a*a*a*a*a-c<b*a>;");
        due("arrange", x.arrange(0, 0), true);
        due("it is so", x.arrange(0, 0), false);
        due("seven signs", x.arrange(0, 1), false);
        due("one sign is so", x.arrange(0, 2), false);
        due("no such square", x.arrange(0, 3), false);
        due("no such line", x.arrange(1, 0), false);
        dueLine("arranged", x, 0, "b*b*b:a-a*a*a*a*a*a*a-c<b*a>");
        due("one act", x.undo(), 0);
        dueLine("arranged no more", x, 0, "b*b*b*a-a*a*a*a*a*a*a-c<b*a>");
    }

    private static void sideAndGap() {
        SignSquares x = Told.of(BASE);
        due("side", x.side(24), 12);
        due("side again", x.side(1), 24);
        due("side is so", x.side(1), NONE);
        due("side 0", x.side(0), NONE);
        due("side 25", x.side(25), NONE);
        due("side now", x.count(4), 1);
        due("gap", x.gap(0), 1);
        due("gap again", x.gap(3), 0);
        due("gap is so", x.gap(3), NONE);
        due("gap -1", x.gap(-1), NONE);
        due("gap 4", x.gap(4), NONE);
        due("gap now", x.count(5), 3);
        due("width with the gap", x.square(0, 0, 1), 10);
        due("scale with the side", x.scale(0, 0, 1), 10);
        due("four acts", x.count(6), 4);
        due("undo", x.undo(), 3);
        due("undo", x.undo(), 2);
        due("gap was", x.count(5), 1);
        due("side is", x.count(4), 1);
        due("undo", x.undo(), 1);
        due("undo", x.undo(), 0);
        due("side was", x.count(4), 12);
    }

    private static void undo() {
        SignSquares x = Told.of(BASE);
        String first = Told.spelled(x, NONE, NONE);
        due("none can", x.undo(), NONE);
        x.exchange(0, 0, 0, 1);
        x.turn(0, 0);
        x.part(0, 0);
        x.join(0, 0);
        x.swap(0, 0, 0, 1);
        x.exchange(0, 0, 0, 2);
        x.insert(0, 0, 0);
        x.release(0, 0, 0);
        x.move(0, 0, 1);
        x.mirror(1);
        x.arrange(1, 0);
        x.gap(2);
        due("twelve", x.count(6), 12);
        for (int n = 11; n >= 0; n--) {
            due("undo to " + n, x.undo(), n);
        }
        TOLD.due("all as it was", Told.spelled(x, NONE, NONE), first);
        for (int n = 1; n <= 13; n++) {
            x.mirror(0);
        }
        due("twelve of thirteen", x.count(6), 12);
        due("one goes", x.undo(), 11);
        x.side(3);
        for (int n = 11; n >= 0; n--) {
            due("undo again to " + n, x.undo(), n);
        }
        due("none more can", x.undo(), NONE);
        due("the first act is past undoing", x.line(0, 2), 1);
        due("an act that fails is none", x.mirror(9), false);
        due("so none can be undone", x.undo(), NONE);
    }

    // ---- 18 .. 37

    private static void sign() {
        SignSquares x = Told.of(BASE);
        int[] ofC = {8, 8, 6, 4, 1};
        int[] ofA = {4, 6, 0, 0, 3};
        for (int what = 0; what < 5; what++) {
            due("sign c " + what, x.sign(2, what), ofC[what]);
            due("sign a " + what, x.sign(0, what), ofA[what]);
            due("sign d " + what, x.sign(3, what), -2);
        }
        due("sign b in all lines", x.sign(1, 4), 5);
        due("what -1", x.sign(0, -1), NONE);
        due("what 5", x.sign(0, 5), NONE);
        due("what 5 of none", x.sign(3, 5), NONE);
        due("letter -1", x.sign(-1, 0), NONE);
        due("letter 26", x.sign(26, 0), NONE);
    }

    private static void lineAsked() {
        SignSquares x = Told.of(BASE);
        due("squares", x.line(0, 0), 2);
        due("signs", x.line(0, 1), 5);
        due("to the right", x.line(0, 2), 0);
        due("to the left", x.line(1, 2), 1);
        due("what 3", x.line(0, 3), NONE);
        due("what -1", x.line(0, -1), NONE);
        due("no such line", x.line(2, 0), NONE);
        due("no such line below", x.line(-1, 0), NONE);
    }

    private static void dueSquare(String text, int... want) {
        SignSquares x = lineOf(text);
        for (int what = 0; what < want.length; what++) {
            due("square " + what + " of " + text, x.square(0, 0, what), want[what]);
        }
    }

    private static void square() {
        dueSquare("a", 1, 4, 6, 0, 1, 1, 0, 0);
        dueSquare("(a:b)*c", 3, 13, 9, 0, 1, 2, 1, 1);
        dueSquare("a*b:c:b*b*b", 6, 11, 18, 0, 3, 2, 0, 0);
        dueSquare("c<(a:b)*a>", 4, 8, 8, 3, 1, 1, 1, 2);
        dueSquare("(a:(b:c<a:b>)*a)*b", 7, 17, 18, 2, 1, 2, 2, 3);
        SignSquares x = Told.of(BASE);
        due("what 8", x.square(0, 0, 8), NONE);
        due("what -1", x.square(0, 0, -1), NONE);
        due("no such square", x.square(0, 2, 0), NONE);
        due("no such line", x.square(2, 0, 0), NONE);
    }

    private static void scale() {
        SignSquares x = lineOf("a*b-b*b*b*a-a:c-c:(c:c)*c");
        dueFraction("no more than 1", x.scale(0, 0, 0), x.scale(0, 0, 1), 1, 1);
        dueFraction("by width", x.scale(0, 1, 0), x.scale(0, 1, 1), 3, 4);
        dueFraction("by height", x.scale(0, 2, 0), x.scale(0, 2, 1), 4, 5);
        dueFraction("by height too", x.scale(0, 3, 0), x.scale(0, 3, 1), 6, 13);
        due("what 2", x.scale(0, 0, 2), NONE);
        due("what -1", x.scale(0, 0, -1), NONE);
        due("no such square", x.scale(0, 4, 0), NONE);
        due("no such line", x.scale(1, 0, 0), NONE);
    }

    private static void letterAndInside() {
        SignSquares x = lineOf("b*c<a:c<b>*a>*c<b>");
        int[] letters = {1, 2, 0, 2, 1, 0, 2, 1};
        int[] holders = {-2, -2, 1, 1, 3, 1, -2, 6};
        for (int i = 0; i < letters.length; i++) {
            due("letter " + i, x.letter(0, 0, i), letters[i]);
            due("inside " + i, x.inside(0, 0, i), holders[i]);
        }
        for (int i : new int[] {-1, -2, 8, Integer.MAX_VALUE, Integer.MIN_VALUE}) {
            due("letter of none " + i, x.letter(0, 0, i), NONE);
            due("inside of none " + i, x.inside(0, 0, i), NONE);
        }
        due("letter, no such square", x.letter(0, 1, 0), NONE);
        due("inside, no such line", x.inside(1, 0, 0), NONE);
    }

    private static void dueBox(SignSquares x, int square, int i, long... fractions) {
        for (int side = 0; side < 5; side++) {
            dueFraction("box of " + i + ", " + side, x.box(0, square, i, side, 0), x.box(0, square, i, side, 1),
                    fractions[2 * side], fractions[2 * side + 1]);
        }
    }

    private static void box() {
        SignSquares x = lineOf("(a:b)*c-a");
        dueBox(x, 0, 0, 0, 1, 24, 13, 48, 13, 72, 13, 12, 13);
        dueBox(x, 0, 1, 6, 13, 108, 13, 36, 13, 24, 13, 12, 13);
        dueBox(x, 0, 2, 60, 13, 30, 13, 96, 13, 96, 13, 12, 13);
        dueBox(x, 1, 0, 4, 1, 3, 1, 4, 1, 6, 1, 1, 1);
        x.mirror(0);
        dueBox(x, 0, 0, 108, 13, 24, 13, 48, 13, 72, 13, 12, 13);
        dueBox(x, 0, 1, 114, 13, 108, 13, 36, 13, 24, 13, 12, 13);
        dueBox(x, 0, 2, 0, 1, 30, 13, 96, 13, 96, 13, 12, 13);
        due("side 5", x.box(0, 0, 0, 5, 0), NONE);
        due("side -1", x.box(0, 0, 0, -1, 0), NONE);
        due("what 2", x.box(0, 0, 0, 0, 2), NONE);
        due("what -1", x.box(0, 0, 0, 0, -1), NONE);
        due("no such sign", x.box(0, 0, 3, 0, 0), NONE);
        due("no such sign below", x.box(0, 0, -1, 0, 0), NONE);
        due("no such square", x.box(0, 2, 0, 0, 0), NONE);
        due("no such line", x.box(1, 0, 0, 0, 0), NONE);
    }

    private static void boxInside() {
        SignSquares x = lineOf("c<a:b>-c<b>");
        dueBox(x, 0, 0, 2, 1, 2, 1, 8, 1, 8, 1, 1, 1);
        dueBox(x, 0, 1, 46, 9, 4, 1, 16, 9, 8, 3, 4, 9);
        dueBox(x, 0, 2, 16, 3, 64, 9, 4, 3, 8, 9, 4, 9);
        dueBox(x, 1, 1, 9, 2, 5, 1, 3, 1, 2, 1, 1, 1);
        // all of it by 1/2: the group of a and b, 4 by 9, comes to 8/9 by 2 in a core of 3 by 2
        x = Told.of("side 4;" + SIGNS + "line c<a:b>;");
        dueBox(x, 0, 1, 14, 9, 1, 1, 8, 9, 4, 3, 2, 9);
    }

    private static void at() {
        SignSquares x = lineOf("(a:b)*c-c<a:b>");
        due("a corner", x.at(0, 0, 60, 30, 13), 2);
        due("just left of it", x.at(0, 0, 59, 30, 13), -2);
        due("just above it", x.at(0, 0, 60, 29, 13), -2);
        due("the far corner", x.at(0, 0, 156, 126, 13), 2);
        due("just right of it", x.at(0, 0, 157, 126, 13), -2);
        due("a right upper corner", x.at(0, 0, 48, 24, 13), 0);
        due("a left lower corner", x.at(0, 0, 0, 96, 13), 0);
        due("the gap between", x.at(0, 0, 20, 100, 13), -2);
        due("the one below", x.at(0, 0, 20, 108, 13), 1);
        due("around", x.at(0, 1, 2, 2, 1), 0);
        due("inside, the last one", x.at(0, 1, 6, 5, 1), 1);
        due("beside what is inside", x.at(0, 1, 4, 5, 1), 0);
        due("outside", x.at(0, 1, 1, 5, 1), -2);
        due("far away", x.at(0, 1, -10000, 10000, 1), -2);
        due("too far", x.at(0, 1, -10001, 0, 1), NONE);
        due("too far down", x.at(0, 1, 0, 10001, 1), NONE);
        due("by 0", x.at(0, 1, 0, 0, 0), NONE);
        due("by 100", x.at(0, 1, 200, 200, 100), 0);
        due("by 101", x.at(0, 1, 200, 200, 101), NONE);
        due("no such square", x.at(0, 2, 0, 0, 1), NONE);
        due("no such line", x.at(1, 0, 0, 0, 1), NONE);
        x.mirror(0);
        due("mirrored", x.at(0, 0, 0, 30, 13), 2);
        due("mirrored corner", x.at(0, 0, 108, 24, 13), 0);
        x = Told.of("gap 0;" + SIGNS + "line a*a;");
        due("on two edges the last", x.at(0, 0, 6, 6, 1), 1);
    }

    private static void column() {
        SignSquares x = Told.of(SIGNS + "line a-b-c;line left a-b-c;");
        for (int k = 0; k < 3; k++) {
            due("column to the right", x.column(0, k), k);
            due("column to the left", x.column(1, k), 2 - k);
        }
        due("no such square", x.column(1, 3), NONE);
        due("no such square below", x.column(0, -1), NONE);
        due("no such line", x.column(2, 0), NONE);
    }

    private static void covered() {
        SignSquares x = lineOf("a*b-(a:b)*c-c<a:b>");
        dueFraction("covered", x.covered(0, 0, 0), x.covered(0, 0, 1), 5, 24);
        dueFraction("covered, scaled", x.covered(0, 1, 0), x.covered(0, 1, 1), 94, 169);
        dueFraction("covered, none inside", x.covered(0, 2, 0), x.covered(0, 2, 1), 4, 9);
        due("what 2", x.covered(0, 0, 2), NONE);
        due("what -1", x.covered(0, 0, -1), NONE);
        due("no such square", x.covered(0, 3, 0), NONE);
        due("no such line", x.covered(1, 0, 0), NONE);
        x = Told.of("gap 0;sign e 6 6;line e*e:e*e;");
        dueFraction("all of it", x.covered(0, 0, 0), x.covered(0, 0, 1), 1, 1);
    }

    private static void smallest() {
        SignSquares x = lineOf("a*b-c<a:b>*a-c<b>-c<a:b>*c<b*b>-c<c<a:b>>");
        due("all alike", x.smallest(0, 0), 2);
        due("those inside", x.smallest(0, 1), 2);
        due("inside at the same scale", x.smallest(0, 2), 2);
        due("those of one of two", x.smallest(0, 3), 2);
        due("the innermost", x.smallest(0, 4), 2);
        due("no such square", x.smallest(0, 5), NONE);
        due("no such line", x.smallest(1, 0), NONE);
    }

    private static void same() {
        SignSquares x = Told.of(SIGNS + "line a*b-a:b;line left(a)*(b)-(a:b)-b*a;");
        due("same", x.same(0, 0, 1, 0), 1);
        due("same in brackets", x.same(0, 1, 1, 1), 1);
        due("another kind", x.same(0, 0, 0, 1), 0);
        due("another order", x.same(0, 0, 1, 2), 0);
        due("itself", x.same(0, 0, 0, 0), 1);
        due("no such square", x.same(0, 2, 0, 0), NONE);
        due("no such other square", x.same(0, 0, 0, 2), NONE);
        due("no such line", x.same(2, 0, 0, 0), NONE);
        due("no such other line", x.same(0, 0, -1, 0), NONE);
    }

    private static void tightestAndLeast() {
        SignSquares x = Told.of(SIGNS + "line a-b*b*b*a-c*c-a-c*c;line a-b;");
        due("tightest", x.tightest(0), 2);
        dueFraction("least", x.least(0, 0), x.least(0, 1), 12, 17);
        due("the first of several", x.tightest(1), 0);
        dueFraction("least of those that fit", x.least(1, 0), x.least(1, 1), 1, 1);
        due("tightest, no such line", x.tightest(2), NONE);
        due("tightest, no such line below", x.tightest(-1), NONE);
        due("least, no such line", x.least(2, 0), NONE);
        due("least, what 2", x.least(0, 2), NONE);
        due("least, what -1", x.least(0, -1), NONE);
    }

    private static void ways() {
        int[] want = {1, 2, 6, 22, 90, 394, -2, -2};
        String signs = "c<a*b>";
        for (int n = 0; n < want.length; n++) {
            SignSquares x = lineOf(signs);
            due("ways of " + (n + 1), x.ways(0, 0), want[n]);
            signs += n % 2 == 0 ? ":b" : "*b";
        }
        SignSquares x = Told.of(BASE);
        due("no such square", x.ways(0, 2), NONE);
        due("no such line", x.ways(2, 0), NONE);
    }

    private static void dueBest(String text, String line, String want, int above, int below) {
        SignSquares x = Told.of(text + "line " + line + ";");
        TOLD.due("best of " + line, Told.bestText(x, 0, 0), want);
        dueFraction("best scale of " + line, x.best(0, 0, 0), x.best(0, 0, 1), above, below);
        due("behind its text", x.bestText(0, 0, want.length()), NONE);
        due("arranged or so already", x.arrange(0, 0), !line.equals(want));
        TOLD.due("arranged " + line, Told.spelled(x, 0, 0), want);
    }

    private static void best() {
        dueBest(SIGNS, "b*b*b*a", "b*b*b:a", 1, 1);
        dueBest(SIGNS, "c<b:a>", "c<b:a>", 1, 1);
        dueBest(SIGNS, "a:b", "a*b", 1, 1);
        dueBest(SIGNS, "c<b:a>:b", "c<b:a>*b", 1, 1);
        dueBest(SIGNS, "c*c", "c*c", 12, 17);
        dueBest("sign t 2 12;sign s 8 5;", "t*s*s", "t*(s:s)", 1, 1);
        dueBest("sign t 2 12;sign s 8 5;", "s*s*t", "(s:s)*t", 1, 1);
        dueBest("gap 0;side 4;sign q 2 2;sign h 4 1;", "h:q*q", "h:q*q", 1, 1);
        dueBest("side 1;gap 0;sign q 1 1;", "q*q:q:q", "q*q:q*q", 1, 2);
        dueBest("side 6;gap 0;sign w 3 1;sign n 1 3;", "w*w*w*n*n*n", "w*w:w*n*n*n", 1, 1);
        // with one bracket each t*(u*u*u:u), t*(u*u:u*u), t*(u:u)*u*u, t*u*u*(u:u) and more come to 4 by 4
        dueBest("side 4;gap 0;sign t 1 4;sign u 1 2;", "t*u*u*(u:u)", "t*(u*u*u:u)", 1, 1);
        dueBest("side 4;gap 0;sign t 1 4;sign u 1 2;", "u:u:u:u:t", "(u*u*u:u)*t", 1, 1);
        SignSquares x = Told.of(SIGNS + "line a*a*a*a*a*a*a-a;");
        due("best of seven", x.best(0, 0, 0), -2);
        due("best of seven, what 2", x.best(0, 0, 2), NONE);
        due("text of seven", x.bestText(0, 0, NONE), -2);
        due("text of seven, 0", x.bestText(0, 0, 0), -2);
        due("text of seven, below", x.bestText(0, 0, -2), NONE);
        due("text, below", x.bestText(0, 1, -2), NONE);
        due("text of no square", x.bestText(0, 2, NONE), NONE);
        due("text of no line", x.bestText(1, 0, NONE), NONE);
        due("best, what -1", x.best(0, 1, -1), NONE);
        due("best of no square", x.best(0, 2, 0), NONE);
        due("best of no line", x.best(1, 0, 0), NONE);
        x = Told.of("sign t 2 12;sign s 8 5;line t*s*s;");
        TOLD.due("best before", Told.bestText(x, 0, 0), "t*(s:s)");
        x.gap(3);
        TOLD.due("best with another gap", Told.bestText(x, 0, 0), "t*(s:s)");
        dueFraction("its scale", x.best(0, 0, 0), x.best(0, 0, 1), 12, 13);
        x.side(24);
        TOLD.due("best with another side", Told.bestText(x, 0, 0), "t*s*s");
    }

    private static void joined() {
        SignSquares x = lineOf("a:b-c-a*a*a*a*a-b*b*b*b*b*b-c");
        dueFraction("joined", x.joined(0, 0, 0), x.joined(0, 0, 1), 12, 13);
        due("eleven signs", x.joined(0, 2, 0), -2);
        due("eleven signs, what 2", x.joined(0, 2, 2), NONE);
        due("what -1", x.joined(0, 0, -1), NONE);
        due("none behind it", x.joined(0, 4, 0), NONE);
        due("no such square", x.joined(0, 5, 0), NONE);
        due("no such square below", x.joined(0, -1, 0), NONE);
        due("no such line", x.joined(1, 0, 0), NONE);
        due("nothing happened", x.line(0, 0), 5);
    }

    private static void spell() {
        String all = "side 9;gap 0;sign b 12 1;sign c 8 8 core 6 4;sign z 1 1;"
                + "line b-(z:z)*z;line(b:z)*c<z*b:z>-b;line left z;line left(b:b)*b;";
        String told = "sign z 01 1;sign b 12 1;gap 3;gap 0;"
                + "sign c 8 8 core 6 4;line (b)-((z:z))*z;side 9;line ((b):z)*c<(z*b):z>-b;line left z;"
                + " line left (b:b)*b ;";
        SignSquares x = Told.of(told);
        TOLD.due("all", Told.spelled(x, NONE, NONE), all);
        TOLD.due("all, whatever square is", Told.spelled(x, NONE, 77), all);
        TOLD.due("a line", Told.spelled(x, 0, NONE), "line b-(z:z)*z;");
        TOLD.due("a line that begins with a bracket", Told.spelled(x, 1, NONE), "line(b:z)*c<z*b:z>-b;");
        TOLD.due("a line to the left", Told.spelled(x, 2, NONE), "line left z;");
        TOLD.due("a square", Told.spelled(x, 1, 0), "(b:z)*c<z*b:z>");
        due("behind the end", x.spell(1, 0, 14), NONE);
        due("below", x.spell(1, 0, -2), NONE);
        due("all, behind the end", x.spell(NONE, 0, all.length()), NONE);
        due("no such square", x.spell(0, 2, NONE), NONE);
        due("no such square below", x.spell(0, -2, NONE), NONE);
        due("no such line", x.spell(4, NONE, NONE), NONE);
        due("no such line below", x.spell(-2, NONE, NONE), NONE);
        SignSquares y = Told.of(all);
        TOLD.due("told again", Told.spelled(y, NONE, NONE), all);
    }

    private static void count() {
        SignSquares x = Told.of("side 7;gap 2;" + BASE);
        x.mirror(0);
        Told.tape(x, "abc");
        int[] want = {2, 3, 9, 3, 7, 2, 1, 3, 1};
        for (int what = 0; what < want.length; what++) {
            due("count " + what, x.count(what), want[what]);
        }
        due("count 9", x.count(9), NONE);
        due("count -1", x.count(-1), NONE);
    }
}
