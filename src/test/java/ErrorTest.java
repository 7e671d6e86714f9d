import java.util.function.Supplier;
import java.util.function.ToIntFunction;

/**
 * "A method that returns an error code changes nothing. If several error codes apply, the one that is
 * named first in the description of the method is returned; NONE is no error, and it is returned only if
 * no error code applies." All promises, each argument just inside and just outside its range.
 */
public final class ErrorTest {
    private static final Checker CHECKER = new Checker("ErrorTest");
    private static final Supplier<Counted> PREPARED = ErrorTest::prepared;
    private static final Supplier<Counted> FULL = ErrorTest::full;
    private static final Supplier<Counted> EMPTY = ErrorTest::empty;

    /** A call one of whose arguments is given. */
    private interface Call {
        int on(Counted x, int argument);
    }

    public static void main(String[] args) {
        canvasArguments();
        frameArguments();
        recordArguments();
        questionArguments();
        sizeArguments();
        impossibleNow();
        noRoom();
        whichErrorIsDue();
        errorBeforeNone();
        noneChangesNothing();
        CHECKER.finish();
    }

    /** 8 by 4 cells, depth limit 1; of the frames 0 to 3, frame 1 has frame 0 as its reference, frame 2 is lost. */
    private static Counted prepared() {
        Counted x = Checker.sized(8, 4, "12345678", "12345678", "9abcdef0", "0fedcba9");
        x.setLimits(3, 1, 2);
        x.addKey();
        x.setCell(7, 1);
        x.addDelta(0);
        x.setCell(6, 1);
        x.addKey();
        x.addKey();
        x.setLost(2, 1);
        x.setCell(5, 1);
        Checker.type(x, "fill 1;dot");
        return x;
    }

    /** Ten frames of 4 by 4 cells and 160 characters; frame 1 has frame 0 as its reference, frame 3 is lost. */
    private static Counted full() {
        Counted x = Checker.sized(4, 4, "1234", "5678");
        x.setLimits(2, 1, 1);
        for (int f = 0; f < 10; f++) {
            x.setCell(f, 15);
            if (f == 1) {
                x.addDelta(0);
            } else {
                x.addKey();
            }
        }
        x.setLost(3, 1);
        for (int i = 0; i < 160; i++) {
            x.appendCharacter(i == 159 ? ';' : ' ');
        }
        return x;
    }

    private static Counted empty() {
        Counted x = new Counted();
        Checker.type(x, "fill 1");
        return x;
    }

    private static void refuses(String what, Supplier<Counted> maker, ToIntFunction<Counted> call, int want) {
        CHECKER.refuses(what, maker, call, want);
    }

    /** From least to greatest an argument is possible, and nothing else. */
    private static void range(String what, int least, int greatest, Call call) {
        CHECKER.holds(what + " of " + least + " is possible", call.on(prepared(), least) != -1);
        CHECKER.holds(what + " of " + greatest + " is possible", call.on(prepared(), greatest) != -1);
        int[] below = {least - 1, least - 2, least - 256, least - 65536, Integer.MIN_VALUE, Integer.MIN_VALUE + 1};
        for (int wrong : below) {
            refuses(what + " of " + wrong, PREPARED, x -> call.on(x, wrong), -1);
        }
        if (greatest == Integer.MAX_VALUE) {
            return;
        }
        int[] above = {greatest + 1, greatest + 2, least + 256, least + 65536, Integer.MAX_VALUE - 1, Integer.MAX_VALUE};
        for (int wrong : above) {
            refuses(what + " of " + wrong, PREPARED, x -> call.on(x, wrong), -1);
        }
    }

    private static void canvasArguments() {
        range("setCell's cell", 0, 31, (x, n) -> x.setCell(n, 5));
        range("setCell's value", 0, 15, (x, n) -> x.setCell(5, n));
        range("cell's cell", 0, 31, (x, n) -> x.cell(n));
        range("appendCharacter's character", 0, 255, (x, n) -> x.appendCharacter(n));
        range("digest's frame", -1, 3, (x, n) -> x.digest(n, 0, 0));
        range("digest's x", 0, 4, (x, n) -> x.digest(-1, n, 0));
        range("digest's y", 0, 0, (x, n) -> x.digest(-1, 0, n));
    }

    private static void frameArguments() {
        range("addDelta's reference", 0, 3, (x, n) -> x.addDelta(n));
        range("setLimits' range", 0, 4, (x, n) -> x.setLimits(n, 1, 2));
        range("setLimits' depth", 0, 9, (x, n) -> x.setLimits(3, n, 2));
        range("setLimits' rate", 0, 9, (x, n) -> x.setLimits(3, 1, n));
        range("setLost's frame", 0, 3, (x, n) -> x.setLost(n, 1));
        range("setLost's on", 0, 1, (x, n) -> x.setLost(0, n));
        range("setLost's on for a lost record", 0, 1, (x, n) -> x.setLost(2, n));
    }

    private static void recordArguments() {
        range("frame's frame", 0, 3, (x, n) -> x.frame(n, 1));
        range("frame's what", 0, 8, (x, n) -> x.frame(1, n));
        range("code's frame", 0, 3, (x, n) -> x.code(n, 0, 0));
        range("code's block", 0, 1, (x, n) -> x.code(1, n, 0));
        range("code's part", 0, 3, (x, n) -> x.code(1, 0, n));
        range("run's frame", 0, 3, (x, n) -> x.run(n, 0, 0, 0));
        range("run's block", 0, 1, (x, n) -> x.run(0, n, 0, 0));
        range("run's run", 0, Integer.MAX_VALUE, (x, n) -> x.run(0, 0, n, 0));
        range("run's part", 0, 1, (x, n) -> x.run(0, 0, 0, n));
        range("pixel's frame", 0, 3, (x, n) -> x.pixel(n, 0));
        range("pixel's cell", 0, 31, (x, n) -> x.pixel(0, n));
        range("count's what", 0, 9, (x, n) -> x.count(n));
    }

    private static void questionArguments() {
        range("costWith's reference", -1, 3, (x, n) -> x.costWith(n));
        range("difference's first", -1, 3, (x, n) -> x.difference(n, 0));
        range("difference's second", -1, 3, (x, n) -> x.difference(0, n));
        range("findBlock's frame", 0, 3, (x, n) -> x.findBlock(n, 0));
        range("findBlock's block", 0, 1, (x, n) -> x.findBlock(0, n));
        range("falseMatches' frame", -1, 3, (x, n) -> x.falseMatches(n));
        range("dependents' frame", 0, 3, (x, n) -> x.dependents(n));
        range("patch's frame", 0, 3, (x, n) -> x.patch(n));
    }

    private static void sizeArguments() {
        for (int wrong : new int[] {Integer.MIN_VALUE, -12, -8, -4, -1, 0, 1, 3, 5, 6, 7, 9, 10, 11, 13, 16, 24,
            256 + 4, 65536 + 8, Integer.MAX_VALUE}) {
            refuses("setSize(" + wrong + ", 8)", PREPARED, x -> x.setSize(wrong, 8), -1);
            refuses("setSize(8, " + wrong + ")", PREPARED, x -> x.setSize(8, wrong), -1);
            refuses("setSize(" + wrong + ", " + wrong + ")", PREPARED, x -> x.setSize(wrong, wrong), -1);
        }
        for (int fine = 4; fine <= 12; fine += 4) {
            int length = fine;
            CHECKER.due("setSize(" + length + ", 8)", prepared().setSize(length, 8), length / 2);
            CHECKER.due("setSize(8, " + length + ")", prepared().setSize(8, length), length / 2);
        }
    }

    private static void impossibleNow() {
        refuses("draw() with an error", PREPARED, Counted::draw, -17);
        refuses("draw() of half a command", EMPTY, Counted::draw, -16);
        refuses("digest(2, 0, 0) of a lost one", PREPARED, x -> x.digest(2, 0, 0), -2);
        refuses("addDelta(2) of a lost one", PREPARED, x -> x.addDelta(2), -2);
        refuses("addDelta(1) at the depth limit", PREPARED, x -> x.addDelta(1), -2);
        refuses("removeLast() of nothing", EMPTY, Counted::removeLast, -2);
        refuses("recode() of nothing", EMPTY, Counted::recode, -2);
        refuses("setLost(2, 1) again", PREPARED, x -> x.setLost(2, 1), -2);
        refuses("setLost(0, 0) again", PREPARED, x -> x.setLost(0, 0), -2);
        refuses("pixel(2, 0) of a lost one", PREPARED, x -> x.pixel(2, 0), -2);
        refuses("costWith(2) of a lost one", PREPARED, x -> x.costWith(2), -2);
        refuses("difference(0, 2) of a lost one", PREPARED, x -> x.difference(0, 2), -2);
        refuses("difference(2, -1) of a lost one", PREPARED, x -> x.difference(2, -1), -2);
        refuses("difference(2, 2) of a lost one", PREPARED, x -> x.difference(2, 2), -2);
        refuses("findBlock(2, 0) of a lost one", PREPARED, x -> x.findBlock(2, 0), -2);
        refuses("falseMatches(2) of a lost one", PREPARED, x -> x.falseMatches(2), -2);
        refuses("patch(0) of one that is not lost", PREPARED, x -> x.patch(0), -2);
        refuses("undo() of nothing", EMPTY, Counted::undo, -2);
    }

    private static void noRoom() {
        refuses("addKey() when full", FULL, Counted::addKey, -3);
        refuses("addDelta(0) when full", FULL, x -> x.addDelta(0), -3);
        refuses("addDelta(9) when full", FULL, x -> x.addDelta(9), -3);
        refuses("addChosen() when full", FULL, Counted::addChosen, -3);
        refuses("appendCharacter(0) when full", FULL, x -> x.appendCharacter(0), -3);
        refuses("appendCharacter(255) when full", FULL, x -> x.appendCharacter(255), -3);
    }

    private static void whichErrorIsDue() {
        refuses("no such character and full", FULL, x -> x.appendCharacter(256), -1);
        refuses("no such character and full", FULL, x -> x.appendCharacter(-1), -1);
        refuses("no such frame and full", FULL, x -> x.addDelta(10), -1);
        refuses("the key frame is no reference, and full", FULL, x -> x.addDelta(-1), -1);
        refuses("a lost reference and full", FULL, x -> x.addDelta(3), -2);
        refuses("a reference at the depth limit and full", FULL, x -> x.addDelta(1), -2);
        refuses("a lost one and x too great", PREPARED, x -> x.digest(2, 5, 0), -1);
        refuses("a lost one and x too small", PREPARED, x -> x.digest(2, -1, 0), -1);
        refuses("a lost one and y too great", PREPARED, x -> x.digest(2, 0, 1), -1);
        refuses("a lost one and y too small", PREPARED, x -> x.digest(2, 0, -1), -1);
        refuses("a lost one and no such cell", PREPARED, x -> x.pixel(2, 32), -1);
        refuses("a lost one and no such cell", PREPARED, x -> x.pixel(2, -1), -1);
        refuses("a lost one and no such frame", PREPARED, x -> x.difference(2, 4), -1);
        refuses("no such frame and a lost one", PREPARED, x -> x.difference(4, 2), -1);
        refuses("a lost one and frame -2", PREPARED, x -> x.difference(2, -2), -1);
        refuses("frame -2 and a lost one", PREPARED, x -> x.difference(-2, 2), -1);
        refuses("a lost one and no such block", PREPARED, x -> x.findBlock(2, 2), -1);
        refuses("a lost one and no such block", PREPARED, x -> x.findBlock(2, -1), -1);
        refuses("lost already, and neither on nor off", PREPARED, x -> x.setLost(2, 2), -1);
        refuses("not lost, and neither on nor off", PREPARED, x -> x.setLost(0, -1), -1);
        refuses("no frames at all", EMPTY, x -> x.addDelta(0), -1);
        refuses("no frames at all", EMPTY, x -> x.setLost(0, 0), -1);
        refuses("no frames at all", EMPTY, x -> x.patch(0), -1);
        refuses("no frames at all", EMPTY, x -> x.costWith(0), -1);
        refuses("no frames at all", EMPTY, x -> x.difference(0, -1), -1);
        refuses("no frames at all", EMPTY, x -> x.digest(0, 0, 0), -1);
    }

    private static void errorBeforeNone() {
        refuses("a key frame, but no such property", PREPARED, x -> x.frame(0, 9), -1);
        refuses("no move, but no such part", PREPARED, x -> x.code(0, 0, 4), -1);
        refuses("no move, but no such block", PREPARED, x -> x.code(0, 2, 1), -1);
        refuses("no such run, but no such part", PREPARED, x -> x.run(0, 0, 99, 2), -1);
        refuses("no such run, but no such block", PREPARED, x -> x.run(0, 2, 99, 0), -1);
        refuses("no such run, but no such frame", PREPARED, x -> x.run(4, 0, 99, 0), -1);
        refuses("a keep, but no such part", PREPARED, x -> x.run(1, 0, 0, 2), -1);
        refuses("a keep, but run -1", PREPARED, x -> x.run(1, 0, -1, 0), -1);
        Supplier<Counted> lost = () -> {
            Counted x = new Counted();
            x.addKey();
            x.addDelta(0);
            x.setCell(0, 1);
            x.setLost(0, 1);
            return x;
        };
        refuses("not in it, but it cannot be decoded", lost, x -> x.findBlock(1, 0), -2);
        refuses("none can be decoded, but it is not lost", lost, x -> x.patch(1), -2);
        refuses("none can be decoded, and no such frame", lost, x -> x.patch(2), -1);
    }

    private static void noneChangesNothing() {
        refuses("frame(0, 0) of a key frame", PREPARED, x -> x.frame(0, 0), -9);
        refuses("code(0, 0, 1) of raw", PREPARED, x -> x.code(0, 0, 1), -9);
        refuses("code(0, 0, 2) of raw", PREPARED, x -> x.code(0, 0, 2), -9);
        refuses("code(1, 0, 3) of a keep", PREPARED, x -> x.code(1, 0, 3), -9);
        refuses("run(0, 0, 16, 0)", PREPARED, x -> x.run(0, 0, 16, 0), -9);
        refuses("run(1, 0, 0, 0) of a keep", PREPARED, x -> x.run(1, 0, 0, 0), -9);
        refuses("findBlock(0, 1)", PREPARED, x -> x.findBlock(0, 1), -9);
        refuses("greatestSeek() of nothing", EMPTY, Counted::greatestSeek, -9);
        refuses("planCost() of nothing", EMPTY, Counted::planCost, -9);
        refuses("planKeys() of nothing", EMPTY, Counted::planKeys, -9);
    }
}
