import java.util.function.ToIntFunction;

/** All promises: a call that returns an error code changes nothing, whatever its arguments are. */
public final class ErrorTest {
    private static final Checker CHECKER = new Checker("ErrorTest");
    private static final int[] STRANGE = {Integer.MIN_VALUE, Integer.MIN_VALUE + 1, -1000000, -257,
        -101, -13, -9, -2, 160, 256, 1000, 65536, 1 << 30, Integer.MAX_VALUE - 1, Integer.MAX_VALUE};

    private static FrameDeltas full;
    private static FrameDeltas empty;

    public static void main(String[] args) {
        full = fullObject();
        empty = new FrameDeltas();
        Checker.type(empty, "fill 1");
        for (int wild : STRANGE) {
            oneArgument(wild);
            moreArguments(wild);
        }
        statesThatForbid();
        CHECKER.finish();
    }

    private static FrameDeltas fullObject() {
        FrameDeltas x = Checker.sized(12, 8, "123456789abc", "def012345678");
        x.setLimits(4, 3, 5);
        x.addKey();
        for (int f = 1; f < 10; f++) {
            Checker.draw(x, "shift 1 0;box " + f + " 2 2 2 " + f + ";");
            x.addChosen();
        }
        x.setLost(4, 1);
        Checker.type(x, "fill 1;dot");
        return x;
    }

    private static void refuses(String what, FrameDeltas x, ToIntFunction<FrameDeltas> call, int want) {
        String before = Checker.allAnswers(x);
        CHECKER.due(what, call.applyAsInt(x), want);
        CHECKER.holds(what + " changes nothing", before.equals(Checker.allAnswers(x)));
    }

    private static void oneArgument(int wild) {
        refuses("cell(" + wild + ")", full, x -> x.cell(wild), -1);
        refuses("appendCharacter(" + wild + ")", full, x -> x.appendCharacter(wild < 256 && wild >= 0 ? -1 : wild), -1);
        refuses("addDelta(" + wild + ")", full, x -> x.addDelta(wild), -1);
        refuses("count(" + wild + ")", full, x -> x.count(wild), -1);
        refuses("costWith(" + wild + ")", full, x -> x.costWith(wild), -1);
        refuses("falseMatches(" + wild + ")", full, x -> x.falseMatches(wild), -1);
        refuses("dependents(" + wild + ")", full, x -> x.dependents(wild), -1);
        refuses("patch(" + wild + ")", full, x -> x.patch(wild), -1);
    }

    private static void moreArguments(int wild) {
        refuses("setSize(8, " + wild + ")", full, x -> x.setSize(8, wild), -1);
        refuses("setSize(" + wild + ", 8)", full, x -> x.setSize(wild, 8), -1);
        refuses("setCell(0, " + wild + ")", full, x -> x.setCell(0, wild), -1);
        refuses("setCell(" + wild + ", 0)", full, x -> x.setCell(wild, 0), -1);
        refuses("digest(" + wild + ", 0, 0)", full, x -> x.digest(wild, 0, 0), -1);
        refuses("digest(-1, " + wild + ", 0)", full, x -> x.digest(-1, wild, 0), -1);
        refuses("digest(-1, 0, " + wild + ")", full, x -> x.digest(-1, 0, wild), -1);
        refuses("setLimits(" + wild + ", 0, 0)", full, x -> x.setLimits(wild, 0, 0), -1);
        refuses("setLimits(0, " + wild + ", 0)", full, x -> x.setLimits(0, wild, 0), -1);
        refuses("setLimits(0, 0, " + wild + ")", full, x -> x.setLimits(0, 0, wild), -1);
        refuses("setLost(" + wild + ", 1)", full, x -> x.setLost(wild, 1), -1);
        refuses("setLost(0, " + wild + ")", full, x -> x.setLost(0, wild), -1);
        refuses("frame(" + wild + ", 0)", full, x -> x.frame(wild, 0), -1);
        refuses("frame(0, " + wild + ")", full, x -> x.frame(0, wild), -1);
        refuses("code(" + wild + ", 0, 0)", full, x -> x.code(wild, 0, 0), -1);
        refuses("code(0, " + wild + ", 0)", full, x -> x.code(0, wild, 0), -1);
        refuses("code(0, 0, " + wild + ")", full, x -> x.code(0, 0, wild), -1);
        refuses("run(" + wild + ", 0, 0, 0)", full, x -> x.run(wild, 0, 0, 0), -1);
        refuses("run(0, " + wild + ", 0, 0)", full, x -> x.run(0, wild, 0, 0), -1);
        refuses("run(0, 0, " + wild + ", 0)", full, x -> x.run(0, 0, wild, 0), wild < 0 ? -1 : -9);
        refuses("run(0, 0, 0, " + wild + ")", full, x -> x.run(0, 0, 0, wild), -1);
        refuses("pixel(" + wild + ", 0)", full, x -> x.pixel(wild, 0), -1);
        refuses("pixel(0, " + wild + ")", full, x -> x.pixel(0, wild), -1);
        refuses("difference(" + wild + ", 0)", full, x -> x.difference(wild, 0), -1);
        refuses("difference(0, " + wild + ")", full, x -> x.difference(0, wild), -1);
        refuses("findBlock(" + wild + ", 0)", full, x -> x.findBlock(wild, 0), -1);
        refuses("findBlock(0, " + wild + ")", full, x -> x.findBlock(0, wild), -1);
    }

    private static void statesThatForbid() {
        refuses("draw() with an error", full, FrameDeltas::draw, -17);
        refuses("addKey() when full", full, FrameDeltas::addKey, -3);
        refuses("addChosen() when full", full, FrameDeltas::addChosen, -3);
        refuses("addDelta(4) of a lost one", full, x -> x.addDelta(4), -2);
        refuses("addDelta(0) when full", full, x -> x.addDelta(0), -3);
        refuses("setLost(4, 1) again", full, x -> x.setLost(4, 1), -2);
        refuses("setLost(0, 0) again", full, x -> x.setLost(0, 0), -2);
        refuses("pixel(4, 0)", full, x -> x.pixel(4, 0), -2);
        refuses("costWith(4)", full, x -> x.costWith(4), -2);
        refuses("difference(0, 4)", full, x -> x.difference(0, 4), -2);
        refuses("findBlock(4, 0)", full, x -> x.findBlock(4, 0), -2);
        refuses("falseMatches(4)", full, x -> x.falseMatches(4), -2);
        refuses("digest(4, 0, 0)", full, x -> x.digest(4, 0, 0), -2);
        refuses("patch(0)", full, x -> x.patch(0), -2);
        refuses("undo() of nothing", empty, FrameDeltas::undo, -2);
        refuses("removeLast() of nothing", empty, FrameDeltas::removeLast, -2);
        refuses("recode() of nothing", empty, FrameDeltas::recode, -2);
        refuses("addDelta(0) of nothing", empty, x -> x.addDelta(0), -1);
        refuses("planCost() of nothing", empty, FrameDeltas::planCost, -9);
        refuses("planKeys() of nothing", empty, FrameDeltas::planKeys, -9);
        refuses("greatestSeek() of nothing", empty, FrameDeltas::greatestSeek, -9);
        refuses("draw() of half a command", empty, FrameDeltas::draw, -16);
    }
}
