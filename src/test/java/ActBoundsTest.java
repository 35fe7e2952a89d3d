import java.util.function.Predicate;
import java.util.function.ToLongFunction;

/** Promises 5 to 17, and what 'Terms' says of ACTS: at each bound, and beyond, where all must be as it was. */
public final class ActBoundsTest {
    private static final Told TOLD = new Told();
    private static final int NONE = SignSquares.NONE;
    private static final String SIGNS = "sign a 4 6;sign b 3 2;sign c 8 8 core 6 4;";
    private static final String LINES = "line a*b-c<a:b>-a;line left b*b*b*a-(a:b)*c-b;";
    private static final Twins TWINS = new Twins(TOLD, ActBoundsTest::base);

    public static void main(String[] args) {
        exchangeAtBounds();
        exchangeBeyond();
        exchangeOfWhatHolds();
        turnAtBounds();
        turnOfOnePart();
        joinAtBounds();
        joinOfTenSigns();
        joinWithoutNext();
        partAtBounds();
        partToEightSquares();
        partOfOnePart();
        swapAtBounds();
        swapOfBothOne();
        swapOfRowsAndParts();
        insertAtBounds();
        insertOfTenSigns();
        insertOfThreeCores();
        insertOfManyBrackets();
        releaseAtBounds();
        releaseToEightSquares();
        moveAtBounds();
        mirrorAtBounds();
        arrangeAtBounds();
        arrangeOfSixAndSeven();
        sideAtBounds();
        gapAtBounds();
        undoOfNone();
        undoOfTwelve();
        undoOfEachAct();
        undoLeavesTableAndTape();
        textForgetsActs();
        TOLD.end();
    }

    /** Three acts can be undone, and something waits on the tape: a refused call must leave these, too. */
    private static SignSquares base() {
        SignSquares x = Told.of("side 13;gap 2;" + SIGNS + "sign z 5 5 core 1 1;" + LINES);
        x.side(20);
        x.mirror(0);
        x.gap(0);
        Told.tape(x, "side 7;gap 3;");
        return x;
    }

    private static SignSquares lineOf(String line) {
        return Told.of(SIGNS + "line " + line + ";");
    }

    private static void due(String what, long got, long want) {
        TOLD.due(what, got, want);
    }

    /** The call is an act, and the line is due then; undone, all is as it was. */
    private static void dueAct(String what, SignSquares x, Predicate<SignSquares> call, int line, String want) {
        int before = x.spell(NONE, NONE, NONE);
        int acts = x.count(6);
        int signs = x.count(2);
        TOLD.due(what, call.test(x), true);
        due(what + ": no act makes signs or takes them away", x.count(2), signs);
        due(what + ": acts", x.count(6), Math.min(12, acts + 1));
        TOLD.due(what, Told.spelled(x, line, NONE), (want.startsWith("(") ? "line" : "line ") + want + ";");
        due(what + ": undone", x.undo(), Math.min(11, acts));
        due(what + ": as long as it was", x.spell(NONE, NONE, NONE), before);
    }

    private static void dueRefused(String what, Predicate<SignSquares> call) {
        TWINS.dueRefused(what, x -> call.test(x) ? 1 : 0, 0);
    }

    private static void dueRefused(String what, String line, Predicate<SignSquares> call) {
        new Twins(TOLD, () -> {
            SignSquares x = lineOf(line);
            x.gap(0);
            x.mirror(0);
            return x;
        }).dueRefused(what + " of " + line, x -> call.test(x) ? 1 : 0, 0);
    }

    private interface OnSquare {
        boolean act(SignSquares x, int line, int square);
    }

    /** "No such ones": two lines there are, three squares in each. */
    private static void dueRefusedBeyond(String act, int line, int square, OnSquare call) {
        for (int wrong : Twins.beyond(2)) {
            dueRefused(act + " in line " + wrong, x -> call.act(x, wrong, square));
        }
        for (int wrong : Twins.beyond(3)) {
            dueRefused(act + " in square " + wrong, x -> call.act(x, line, wrong));
        }
        new Twins(TOLD, SignSquares::new).dueRefused(act + " of a new object", x -> call.act(x, 0, 0) ? 1 : 0, 0);
    }

    // ---- 5: exchange

    private static void exchangeAtBounds() {
        dueAct("the first sign, the last letter", base(), x -> x.exchange(0, 0, 0, 25), 0, "left z*b-c<a:b>-a");
        dueAct("the last sign of a square", base(), x -> x.exchange(1, 0, 3, 1), 1, "left b*b*b*b-(a:b)*c-b");
        dueAct("the last square, the first letter", base(), x -> x.exchange(1, 2, 0, 0), 1,
                "left b*b*b*a-(a:b)*c-a");
        dueAct("the last sign inside", base(), x -> x.exchange(0, 1, 2, 0), 0, "left a*b-c<a:a>-a");
        dueAct("a core that is empty may go", base(), x -> x.exchange(1, 1, 2, 0), 1, "left b*b*b*a-(a:b)*a-b");
    }

    private static void exchangeBeyond() {
        dueRefusedBeyond("exchange", 0, 0, (x, line, square) -> x.exchange(line, square, 0, 2));
        for (int i : Twins.beyond(2)) {
            dueRefused("exchange of sign " + i, x -> x.exchange(0, 0, i, 2));
        }
        for (int letter : Twins.beyond(26)) {
            dueRefused("exchange by letter " + letter, x -> x.exchange(0, 0, 0, letter));
        }
        for (int letter = 3; letter < 25; letter++) {
            int none = letter;
            dueRefused("exchange by a letter that is not told " + letter, x -> x.exchange(0, 0, 0, none));
        }
        dueRefused("it is so", x -> x.exchange(0, 0, 0, 0));
        dueRefused("it is so, inside", x -> x.exchange(0, 1, 2, 1));
        dueRefused("it is so, around", x -> x.exchange(0, 1, 0, 2));
    }

    private static void exchangeOfWhatHolds() {
        dueAct("one with a core", base(), x -> x.exchange(0, 1, 0, 25), 0, "left a*b-z<a:b>-a");
        dueRefused("one without a core", x -> x.exchange(0, 1, 0, 0));
        dueRefused("another without a core", x -> x.exchange(0, 1, 0, 1));
        dueRefused("one without a core, within", "c<c<a>>", x -> x.exchange(0, 0, 1, 1));
    }

    // ---- 6: turn

    private static void turnAtBounds() {
        dueAct("the first square", base(), x -> x.turn(0, 0), 0, "left a:b-c<a:b>-a");
        dueAct("a square of the last line", base(), x -> x.turn(1, 1), 1, "left b*b*b*a-a*b:c-b");
        dueAct("the last square", lineOf("a-a:b"), x -> x.turn(0, 1), 0, "a-a*b");
        dueAct("two parts, each with rows", lineOf("(a:b)*(b:a)"), x -> x.turn(0, 0), 0, "a*b:b*a");
        dueAct("two rows, each of parts", lineOf("a*b:b*a"), x -> x.turn(0, 0), 0, "(a:b)*(b:a)");
        dueAct("in brackets in brackets", lineOf("a*(b:c*(a:b))"), x -> x.turn(0, 0), 0, "a:b*(c:a*b)");
        dueAct("not inside", lineOf("c<a*b>*c<a:b>"), x -> x.turn(0, 0), 0, "c<a*b>:c<a:b>");
        dueAct("ten signs", lineOf("a:a:a:a:a:b:b:b:b:b"), x -> x.turn(0, 0), 0, "a*a*a*a*a*b*b*b*b*b");
        dueRefusedBeyond("turn", 0, 0, SignSquares::turn);
    }

    private static void turnOfOnePart() {
        dueRefused("a sign", x -> x.turn(0, 2));
        dueRefused("a sign that holds rows", x -> x.turn(0, 1));
        dueRefused("turn", "(((a)))", x -> x.turn(0, 0));
        dueRefused("turn", "(c<a*b*c:a>)", x -> x.turn(0, 0));
        dueAct("brackets around all are none", lineOf("((a*b))"), x -> x.turn(0, 0), 0, "a:b");
    }

    // ---- 7: join

    private static void joinAtBounds() {
        dueAct("the first two", base(), x -> x.join(0, 0), 0, "left a*b*c<a:b>-a");
        dueAct("the last two", base(), x -> x.join(1, 1), 1, "left b*b*b*a-(a:b)*c*b");
        dueAct("the only two", lineOf("a-b"), x -> x.join(0, 0), 0, "a*b");
        dueAct("the last two of eight", lineOf("a-a-a-a-a-a-a-b"), x -> x.join(0, 6), 0, "a-a-a-a-a-a-a*b");
        dueAct("rows and rows", lineOf("a:b-b:a"), x -> x.join(0, 0), 0, "(a:b)*(b:a)");
        dueAct("parts and rows", lineOf("a*b-b:a"), x -> x.join(0, 0), 0, "a*b*(b:a)");
        dueAct("rows and parts", lineOf("a:b-b*a"), x -> x.join(0, 0), 0, "(a:b)*b*a");
        dueRefusedBeyond("join", 0, 0, SignSquares::join);
    }

    private static void joinOfTenSigns() {
        dueAct("five and five", lineOf("a*a*a*a*a-b*b*b*b*b"), x -> x.join(0, 0), 0, "a*a*a*a*a*b*b*b*b*b");
        dueAct("nine and one", lineOf("a:a:a:a:a:a:a:a:a-b"), x -> x.join(0, 0), 0, "(a:a:a:a:a:a:a:a:a)*b");
        dueAct("ten, most inside", lineOf("c<a*a*a*a>-c<b*b*b*b>"), x -> x.join(0, 0), 0, "c<a*a*a*a>*c<b*b*b*b>");
        dueRefused("join of eleven", "a*a*a*a*a-b*b*b*b*b*b", x -> x.join(0, 0));
        dueRefused("join of eleven", "a-a:a:a:a:a:a:a:a:a:a", x -> x.join(0, 0));
        dueRefused("join of eleven", "c<a*a*a*a>-c<b*b*b*b*b>", x -> x.join(0, 0));
        dueRefused("join of twenty", "a*a*a*a*a*a*a*a*a*a-b*b*b*b*b*b*b*b*b*b", x -> x.join(0, 0));
    }

    private static void joinWithoutNext() {
        dueRefused("the last of three", x -> x.join(0, 2));
        dueRefused("the last of three to the left", x -> x.join(1, 2));
        dueRefused("join", "a", x -> x.join(0, 0));
        dueRefused("join", "a-a-a-a-a-a-a-a", x -> x.join(0, 7));
    }

    // ---- 8: part

    private static void partAtBounds() {
        dueAct("two parts", base(), x -> x.part(0, 0), 0, "left a-b-c<a:b>-a");
        dueAct("four parts", base(), x -> x.part(1, 0), 1, "left b-b*b*a-(a:b)*c-b");
        dueAct("the first in brackets", base(), x -> x.part(1, 1), 1, "left b*b*b*a-a:b-c-b");
        dueAct("the others in brackets", lineOf("a*(b:c)"), x -> x.part(0, 0), 0, "a-b:c");
        dueAct("two rows", lineOf("a*b:b"), x -> x.part(0, 0), 0, "a*b-b");
        dueAct("three rows", lineOf("a:b*a:b"), x -> x.part(0, 0), 0, "a-b*a:b");
        dueAct("a row that is left alone", lineOf("a:b*(a:c)"), x -> x.part(0, 0), 0, "a-b*(a:c)");
        dueAct("the last square", lineOf("a-a:b"), x -> x.part(0, 1), 0, "a-a-b");
        dueRefusedBeyond("part", 0, 0, SignSquares::part);
    }

    private static void partToEightSquares() {
        dueAct("seven squares", lineOf("a-a-a-a-a-a-a*b"), x -> x.part(0, 6), 0, "a-a-a-a-a-a-a-b");
        dueAct("seven squares, the first", lineOf("a:b-a-a-a-a-a-a"), x -> x.part(0, 0), 0, "a-b-a-a-a-a-a-a");
        dueRefused("part with eight squares", "a-a-a-a-a-a-a-a*b", x -> x.part(0, 7));
        dueRefused("part with eight squares", "a:b-a-a-a-a-a-a-a", x -> x.part(0, 0));
        SignSquares x = Told.of(SIGNS + "line a-a-a-a-a-a-a-a;line a*b;");
        TOLD.due("another line has eight", x.part(1, 0), true);
    }

    private static void partOfOnePart() {
        dueRefused("a sign", x -> x.part(0, 2));
        dueRefused("a sign that holds rows", x -> x.part(0, 1));
        dueRefused("part", "((a))", x -> x.part(0, 0));
        dueRefused("part", "c<a*b>", x -> x.part(0, 0));
    }

    // ---- 9: swap

    private static void swapAtBounds() {
        dueAct("the first and the last", base(), x -> x.swap(1, 0, 0, 3), 1, "left a*b*b*b-(a:b)*c-b");
        dueAct("the last and the first", base(), x -> x.swap(1, 0, 3, 0), 1, "left a*b*b*b-(a:b)*c-b");
        dueAct("two in the middle", lineOf("a*b*c*a"), x -> x.swap(0, 0, 2, 1), 0, "a*c*b*a");
        dueAct("the only two", base(), x -> x.swap(0, 0, 1, 0), 0, "left b*a-c<a:b>-a");
        dueAct("two that look alike", base(), x -> x.swap(1, 0, 0, 1), 1, "left b*b*b*a-(a:b)*c-b");
        dueAct("the last square", lineOf("a-a*b"), x -> x.swap(0, 1, 0, 1), 0, "a-b*a");
        dueAct("ten parts", lineOf("a*b*b*b*b*b*b*b*b*c"), x -> x.swap(0, 0, 9, 0), 0, "c*b*b*b*b*b*b*b*b*a");
        dueRefusedBeyond("swap", 0, 0, (x, line, square) -> x.swap(line, square, 0, 1));
        for (int wrong : Twins.beyond(4)) {
            dueRefused("swap of 0 and " + wrong, x -> x.swap(1, 0, 0, wrong));
            dueRefused("swap of " + wrong + " and 0", x -> x.swap(1, 0, wrong, 0));
        }
    }

    private static void swapOfBothOne() {
        for (int both : new int[] {0, 1, 3, 4, -1, Integer.MAX_VALUE, Integer.MIN_VALUE}) {
            dueRefused("both are " + both, x -> x.swap(1, 0, both, both));
        }
        dueRefused("one part", x -> x.swap(0, 2, 0, 1));
        dueRefused("one part, itself", x -> x.swap(0, 2, 0, 0));
        dueRefused("one part that holds two", x -> x.swap(0, 1, 0, 1));
    }

    /** "Of its ROWS, if it has several, else of its one ROW." */
    private static void swapOfRowsAndParts() {
        String three = "a*b*c:b:c<a>*b";
        dueAct("rows", lineOf(three), x -> x.swap(0, 0, 0, 2), 0, "c<a>*b:b:a*b*c");
        dueAct("rows beside one another", lineOf(three), x -> x.swap(0, 0, 2, 1), 0, "a*b*c:c<a>*b:b");
        dueRefused("swap of a fourth row", three, x -> x.swap(0, 0, 0, 3));
        dueAct("two rows", lineOf("a*b*c:b"), x -> x.swap(0, 0, 0, 1), 0, "b:a*b*c");
        dueRefused("swap of a third part, with two rows", "a*b*c:b", x -> x.swap(0, 0, 0, 2));
        dueAct("parts in brackets", lineOf("(a:b:c)*b"), x -> x.swap(0, 0, 0, 1), 0, "b*(a:b:c)");
        dueRefused("swap of a third one, in brackets", "(a:b:c)*b", x -> x.swap(0, 0, 0, 2));
    }

    // ---- 10: insert

    private static void insertAtBounds() {
        dueAct("the first sign", lineOf("c*a-b"), x -> x.insert(0, 0, 0), 0, "c<b>*a");
        dueAct("the last sign", lineOf("a*c-b-a"), x -> x.insert(0, 0, 1), 0, "a*c<b>-a");
        dueAct("one in brackets", lineOf("(a:c)*b-b*b"), x -> x.insert(0, 0, 1), 0, "(a:c<b*b>)*b");
        dueAct("the last but one square", lineOf("a-c-b:a"), x -> x.insert(0, 1, 0), 0, "a-c<b:a>");
        dueAct("beside one that holds", lineOf("c<a>*c-b"), x -> x.insert(0, 0, 2), 0, "c<a>*c<b>");
        dueAct("one inside", lineOf("c<c>-b"), x -> x.insert(0, 0, 1), 0, "c<c<b>>");
        dueAct("by one in brackets", base(), x -> x.insert(1, 1, 2), 1, "left b*b*b*a-(a:b)*c<b>");
        dueRefusedBeyond("insert", 1, 1, (x, line, square) -> x.insert(line, square, 2));
        for (int i : Twins.beyond(3)) {
            dueRefused("insert in sign " + i, x -> x.insert(1, 1, i));
        }
        dueRefused("no core", x -> x.insert(0, 0, 0));
        dueRefused("no core, inside", x -> x.insert(0, 1, 1));
        dueRefused("something is inside it", x -> x.insert(0, 1, 0));
        dueRefused("no next square", "a-c", x -> x.insert(0, 1, 0));
        dueRefused("no next square", "c", x -> x.insert(0, 0, 0));
    }

    private static void insertOfTenSigns() {
        dueAct("one and nine", lineOf("c-b*b*b*b*b*b*b*b*b"), x -> x.insert(0, 0, 0), 0, "c<b*b*b*b*b*b*b*b*b>");
        dueAct("nine and one", lineOf("a:a:a:a:a:a:a:a:c-b"), x -> x.insert(0, 0, 8), 0, "a:a:a:a:a:a:a:a:c<b>");
        dueRefused("insert of ten in one", "c-b*b*b*b*b*b*b*b*b*b", x -> x.insert(0, 0, 0));
        dueRefused("insert of one in ten", "a:a:a:a:a:a:a:a:a:c-b", x -> x.insert(0, 0, 9));
        dueRefused("insert of five in six", "c*a*a*a*a*a-c<b*b>*b*b", x -> x.insert(0, 0, 0));
    }

    private static void insertOfThreeCores() {
        dueAct("none and two", lineOf("c-c<c<a>>"), x -> x.insert(0, 0, 0), 0, "c<c<c<a>>>");
        dueAct("one and one", lineOf("c<c>-c<a>"), x -> x.insert(0, 0, 1), 0, "c<c<c<a>>>");
        dueAct("two and none", lineOf("c<c<c>>-a"), x -> x.insert(0, 0, 2), 0, "c<c<c<a>>>");
        dueAct("beside three", lineOf("c<c<c<a>>>*c-c<c<b>>"), x -> x.insert(0, 0, 4), 0, "c<c<c<a>>>*c<c<c<b>>>");
        dueAct("in brackets", lineOf("(c<c>:a)*a-(b:c<a>)*b"), x -> x.insert(0, 0, 1), 0,
                "(c<c<(b:c<a>)*b>>:a)*a");
        dueRefused("insert of three in one", "c-c<c<c<a>>>", x -> x.insert(0, 0, 0));
        dueRefused("insert of two in the second", "c<c>-c<c<a>>", x -> x.insert(0, 0, 1));
        dueRefused("insert of one in the third", "c<c<c>>-c<a>", x -> x.insert(0, 0, 2));
        dueRefused("insert of none in the fourth", "c<c<c<c>>>-a", x -> x.insert(0, 0, 3));
        dueRefused("insert of three beside", "c*a-b*(a:c<c<c<b>>>)", x -> x.insert(0, 0, 0));
    }

    /** "( are not bounded by ACTS": six brackets in all, three of them cores, are the most that ten signs can have. */
    private static void insertOfManyBrackets() {
        SignSquares x = lineOf("a*(b:c)-a*(b:c)-a*(b:c<a>)");
        TOLD.due("the second in the first", x.insert(0, 0, 2), true);
        TOLD.due("the third in that", x.insert(0, 0, 5), true);
        TOLD.due("six within one another", Told.spelled(x, 0, 0), "a*(b:c<a*(b:c<a*(b:c<a>)>)>)");
        due("six deep", x.square(0, 0, 7), 6);
    }

    // ---- 11: release

    private static void releaseAtBounds() {
        dueAct("the first sign", lineOf("c<a:b>*a"), x -> x.release(0, 0, 0), 0, "c*a-a:b");
        dueAct("a later square", base(), x -> x.release(0, 1, 0), 0, "left a*b-c-a:b-a");
        dueAct("one within", lineOf("c<c<a*b>:b>"), x -> x.release(0, 0, 1), 0, "c<c:b>-a*b");
        dueAct("the outer one", lineOf("c<c<a*b>:b>"), x -> x.release(0, 0, 0), 0, "c-c<a*b>:b");
        dueAct("the last sign that can", lineOf("a-a*c<b>"), x -> x.release(0, 1, 1), 0, "a-a*c-b");
        dueRefusedBeyond("release", 0, 1, (x, line, square) -> x.release(line, square, 0));
        for (int i : Twins.beyond(3)) {
            dueRefused("release of sign " + i, x -> x.release(0, 1, i));
        }
        dueRefused("nothing is inside a sign without core", x -> x.release(0, 0, 0));
        dueRefused("nothing is inside a sign inside", x -> x.release(0, 1, 1));
        dueRefused("nothing is inside a core", x -> x.release(1, 1, 2));
    }

    private static void releaseToEightSquares() {
        dueAct("seven squares", lineOf("a-a-a-a-a-a-c<b>"), x -> x.release(0, 6, 0), 0, "a-a-a-a-a-a-c-b");
        dueAct("seven squares, the first", lineOf("c<b>-a-a-a-a-a-a"), x -> x.release(0, 0, 0), 0, "c-b-a-a-a-a-a-a");
        dueRefused("release with eight squares", "a-a-a-a-a-a-a-c<b>", x -> x.release(0, 7, 0));
        dueRefused("release with eight squares", "c<b>-a-a-a-a-a-a-a", x -> x.release(0, 0, 0));
    }

    // ---- 12, 13: move, mirror

    private static void moveAtBounds() {
        String eight = "a-b-c-a*b-a:b-b*a-b:a-c<a>";
        dueAct("the first to the last place", lineOf(eight), x -> x.move(0, 0, 7), 0, "b-c-a*b-a:b-b*a-b:a-c<a>-a");
        dueAct("the last to the first place", lineOf(eight), x -> x.move(0, 7, 0), 0, "c<a>-a-b-c-a*b-a:b-b*a-b:a");
        dueAct("one on", lineOf(eight), x -> x.move(0, 3, 4), 0, "a-b-c-a:b-a*b-b*a-b:a-c<a>");
        dueAct("one back", lineOf(eight), x -> x.move(0, 4, 3), 0, "a-b-c-a:b-a*b-b*a-b:a-c<a>");
        dueAct("two on", lineOf(eight), x -> x.move(0, 1, 3), 0, "a-c-a*b-b-a:b-b*a-b:a-c<a>");
        dueAct("the last line", base(), x -> x.move(1, 2, 0), 1, "left b-b*b*b*a-(a:b)*c");
        dueAct("two that look alike", lineOf("a-a"), x -> x.move(0, 0, 1), 0, "a-a");
        dueRefusedBeyond("move", 0, 0, (x, line, square) -> x.move(line, square, 1));
        for (int to : Twins.beyond(3)) {
            dueRefused("move to " + to, x -> x.move(0, 0, to));
            dueRefused("move from and to " + to, x -> x.move(0, to, to));
        }
        for (int k = 0; k < 3; k++) {
            int same = k;
            dueRefused("it is that " + k, x -> x.move(1, same, same));
        }
        dueRefused("move", "a", x -> x.move(0, 0, 0));
        dueRefused("move", "a", x -> x.move(0, 0, 1));
    }

    private static void mirrorAtBounds() {
        dueAct("the first line, back", base(), x -> x.mirror(0), 0, "a*b-c<a:b>-a");
        dueAct("the last line", base(), x -> x.mirror(1), 1, "b*b*b*a-(a:b)*c-b");
        for (int line : Twins.beyond(2)) {
            dueRefused("mirror of line " + line, x -> x.mirror(line));
        }
        SignSquares four = Told.of(SIGNS + "line a;line b;line a;line b;");
        dueAct("the last of four lines", four, x -> x.mirror(3), 3, "left b");
        new Twins(TOLD, () -> Told.of(SIGNS + "line a;line b;line a;line b;")).dueRefused("no fifth line",
                x -> x.mirror(4) ? 1 : 0, 0);
        new Twins(TOLD, SignSquares::new).dueRefused("mirror of a new object", x -> x.mirror(0) ? 1 : 0, 0);
    }

    // ---- 14: arrange

    private static void arrangeAtBounds() {
        dueRefusedBeyond("arrange", 1, 1, SignSquares::arrange);
        dueRefused("one sign is so", x -> x.arrange(0, 2));
        dueRefused("one sign that holds two is so", x -> x.arrange(0, 1));
        dueRefused("two that fit beside one another are so", x -> x.arrange(0, 0));
        dueRefused("arrange", "a*b", x -> x.arrange(0, 0));
        dueRefused("arrange", "c<b:a>*b", x -> x.arrange(0, 0));
        dueAct("both ways fit: the first by its text", lineOf("a:b"), x -> x.arrange(0, 0), 0, "a*b");
        dueAct("the last square", lineOf("a-a:b"), x -> x.arrange(0, 1), 0, "a-a*b");
        dueAct("what is inside stays", lineOf("c<b:a>:b"), x -> x.arrange(0, 0), 0, "c<b:a>*b");
        SignSquares x = lineOf("a:b");
        TOLD.due("arrange", x.arrange(0, 0), true);
        TOLD.due("then it is so", x.arrange(0, 0), false);
        due("one act", x.count(6), 1);
    }

    /** "n of them (1 .. 6)": those inside others are not among them. */
    private static void arrangeOfSixAndSeven() {
        String six = "side 24;gap 0;sign q 4 4 core 2 2;";
        dueAct("six", Told.of(six + "line q:q:q:q:q:q;"), x -> x.arrange(0, 0), 0, "q*q*q*q*q*q");
        dueAct("six of ten", Told.of(six + "line q<q>:q<q>:q<q*q>:q:q:q;"), x -> x.arrange(0, 0), 0,
                "q<q>*q<q>*q<q*q>*q*q*q");
        Twins seven = new Twins(TOLD, () -> Told.of(six + "line q:q:q:q:q:q:q-q:q:q:q:q:q:q:q:q:q;"));
        seven.dueRefused("seven", x -> x.arrange(0, 0) ? 1 : 0, 0);
        seven.dueRefused("ten", x -> x.arrange(0, 1) ? 1 : 0, 0);
    }

    // ---- 15, 16: side, gap

    private static void sideAtBounds() {
        for (int side = 1; side <= 24; side++) {
            SignSquares x = base();
            due("side " + side, x.side(side), side == 20 ? NONE : 20);
            due("side is " + side, x.count(4), side);
            due("acts behind side " + side, x.count(6), side == 20 ? 3 : 4);
        }
        for (int side : new int[] {0, -1, -2, 25, 26, 100, 256 + 5, Integer.MAX_VALUE, Integer.MIN_VALUE}) {
            TWINS.dueRefused("side " + side, x -> x.side(side), NONE);
        }
        TWINS.dueRefused("side is so", x -> x.side(20), NONE);
        new Twins(TOLD, SignSquares::new).dueRefused("a new object's side is so", x -> x.side(12), NONE);
    }

    private static void gapAtBounds() {
        for (int gap = 0; gap <= 3; gap++) {
            SignSquares x = base();
            due("gap " + gap, x.gap(gap), gap == 0 ? NONE : 0);
            due("gap is " + gap, x.count(5), gap);
            due("acts behind gap " + gap, x.count(6), gap == 0 ? 3 : 4);
        }
        for (int gap : new int[] {-1, -2, 4, 5, 100, 256 + 1, Integer.MAX_VALUE, Integer.MIN_VALUE}) {
            TWINS.dueRefused("gap " + gap, x -> x.gap(gap), NONE);
        }
        TWINS.dueRefused("gap is so", x -> x.gap(0), NONE);
        new Twins(TOLD, SignSquares::new).dueRefused("a new object's gap is so", x -> x.gap(1), NONE);
    }

    // ---- 17: undo

    private static void undoOfNone() {
        new Twins(TOLD, SignSquares::new).dueRefused("undo of a new object", SignSquares::undo, NONE);
        new Twins(TOLD, () -> lineOf("a*b")).dueRefused("undo behind a text", SignSquares::undo, NONE);
        SignSquares x = lineOf("a*b");
        x.turn(0, 0);
        due("undo of one", x.undo(), 0);
        due("undo of none", x.undo(), NONE);
        due("undo of none again", x.undo(), NONE);
        due("no acts", x.count(6), 0);
        x.turn(0, 1);
        x.turn(1, 0);
        x.side(12);
        x.gap(9);
        due("refused acts are none", x.count(6), 0);
        due("nothing to undo of them", x.undo(), NONE);
    }

    /** "ACTS (of which the latest 12 can be undone)." */
    private static void undoOfTwelve() {
        for (int acts = 1; acts <= 30; acts++) {
            SignSquares x = lineOf("a");
            for (int n = 1; n <= acts; n++) {
                due("act " + n, x.side(13 + n % 11), n == 1 ? 12 : 13 + (n - 1) % 11);
            }
            int can = Math.min(12, acts);
            due(acts + " acts", x.count(6), can);
            for (int left = can - 1; left >= 0; left--) {
                int n = acts - can + left;
                due("undo to " + left + " of " + acts, x.undo(), left);
                due("as behind act " + n, x.count(4), n == 0 ? 12 : 13 + n % 11);
                due("acts left", x.count(6), left);
            }
            due("undo of no more of " + acts, x.undo(), NONE);
            due("that stays", x.count(4), acts <= 12 ? 12 : 13 + (acts - 12) % 11);
        }
    }

    private static void undoOfEachAct() {
        String line = "a*b-c<a:b>-b";
        dueUndone(line, x -> x.exchange(0, 0, 0, 2) ? 1 : 0);
        dueUndone(line, x -> x.turn(0, 0) ? 1 : 0);
        dueUndone(line, x -> x.join(0, 1) ? 1 : 0);
        dueUndone(line, x -> x.part(0, 0) ? 1 : 0);
        dueUndone(line, x -> x.swap(0, 0, 0, 1) ? 1 : 0);
        dueUndone("c*a-a:b-b", x -> x.insert(0, 0, 0) ? 1 : 0);
        dueUndone(line, x -> x.release(0, 1, 0) ? 1 : 0);
        dueUndone(line, x -> x.move(0, 0, 2) ? 1 : 0);
        dueUndone(line, x -> x.mirror(0) ? 1 : 0);
        dueUndone("a-a:b", x -> x.arrange(0, 1) ? 1 : 0);
        dueUndone(line, x -> x.side(1) == 12 ? 1 : 0);
        dueUndone(line, x -> x.gap(0) == 1 ? 1 : 0);
    }

    private static void dueUndone(String line, ToLongFunction<SignSquares> act) {
        SignSquares x = lineOf(line);
        String before = Told.spelled(x, NONE, NONE);
        due("an act", act.applyAsLong(x), 1);
        due("one that can be undone", x.count(6), 1);
        due("undone", x.undo(), 0);
        TOLD.due("LINES, SIDE, GAP as they were", Told.spelled(x, NONE, NONE), before);
        due("done again", act.applyAsLong(x), 1);
        due("one that can be undone again", x.count(6), 1);
    }

    private static void undoLeavesTableAndTape() {
        SignSquares x = base();
        due("tape", x.count(7), 13);
        due("undo", x.undo(), 2);
        due("tape stays", x.count(7), 13);
        due("table stays", x.count(3), 4);
        due("an act behind an undone one", x.gap(1), 2);
        due("takes its place", x.count(6), 3);
        due("undo again", x.undo(), 2);
        due("gap was", x.count(5), 2);
        due("undo", x.undo(), 1);
        due("the first line was read to the right", x.line(0, 2), 0);
        due("undo", x.undo(), 0);
        due("side was", x.count(4), 13);
        due("feeding is no act", x.feed(0, 0, 0, 0, 0), 33);
        due("so none can be undone", x.undo(), NONE);
    }

    /** "text() forgets them", but "all else stays" behind a fault. */
    private static void textForgetsActs() {
        SignSquares x = base();
        x.back(13);
        due("a fault", Told.tell(x, "line"), -8);
        due("acts stay", x.count(6), 3);
        due("undo behind a fault", x.undo(), 2);
        due("gap as it was", x.count(5), 2);
        due("a text", x.text(), 0);
        due("acts are forgotten", x.count(6), 0);
        due("none can be undone", x.undo(), NONE);
        due("an act behind it", x.side(3), 12);
        due("one can be undone", x.undo(), 0);
        due("no more than one", x.undo(), NONE);
    }
}
