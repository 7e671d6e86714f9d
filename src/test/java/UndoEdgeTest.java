import java.util.ArrayList;
import java.util.List;
import java.util.Random;
import java.util.function.ToIntFunction;

/** "Undo", sentence by sentence: which calls save a state, six states at most, and all that comes back. */
public final class UndoEdgeTest {
    private static final Checker CHECKER = new Checker("UndoEdgeTest");

    public static void main(String[] args) {
        for (int before = 0; before <= 7; before++) {
            successfulCallsSave(before);
            refusedCallsDoNot(before);
            otherCallsDoNot(before);
        }
        callsWithoutChange();
        sixStates();
        undoAndGoOn();
        everythingComesBack();
        eachPartComesBack();
        recordsComeBack();
        textIsNoPart();
        newObjectHasNone();
        CHECKER.finish();
    }

    private static void due(String what, long got, long want) {
        CHECKER.due(what, got, want);
    }

    /** 8 by 4 cells with a key frame and a delta that is lost, six saved states, and then so many undos. */
    private static Counted withFrames(int undone) {
        Counted x = Checker.sized(8, 4, "1234");
        x.addKey();
        x.addDelta(0);
        x.setLost(1, 1);
        for (int n = 0; n < 6; n++) {
            x.setCell(8 + n, 9);
        }
        for (int n = 0; n < undone; n++) {
            x.undo();
        }
        return x;
    }

    private static void saves(String what, int before, ToIntFunction<Counted> call, boolean aState) {
        Counted x = withFrames(Math.max(0, 6 - before));
        int saved = x.count(9);
        due("saved states before", saved, Math.min(before, 6));
        int answer = call.applyAsInt(x);
        CHECKER.holds(what + " succeeds", answer >= 0 || !aState);
        due("states after " + what + " with " + saved, x.count(9), aState ? Math.min(saved + 1, 6) : saved);
        if (aState) {
            due("undo() after " + what + " with " + saved, x.undo(), Math.min(saved, 5));
        }
    }

    private static void successfulCallsSave(int before) {
        saves("setSize", before, x -> x.setSize(4, 4), true);
        saves("setCell", before, x -> x.setCell(0, 15), true);
        saves("draw", before, x -> Checker.draw(x, "fill 3;"), true);
        saves("addKey", before, Counted::addKey, true);
        saves("addDelta", before, x -> x.addDelta(0), true);
        saves("addChosen", before, Counted::addChosen, true);
        saves("removeLast", before, Counted::removeLast, true);
        saves("recode", before, Counted::recode, true);
        saves("setLimits", before, x -> x.setLimits(1, 1, 1), true);
        saves("setLost on", before, x -> x.setLost(0, 1), true);
        saves("setLost off", before, x -> x.setLost(1, 0), true);
    }

    private static void refusedCallsDoNot(int before) {
        saves("setSize of 5", before, x -> x.setSize(5, 4), false);
        saves("setCell of 16", before, x -> x.setCell(0, 16), false);
        saves("draw with an error", before, x -> Checker.draw(x, "fill 3;fill"), false);
        saves("addDelta of no frame", before, x -> x.addDelta(2), false);
        saves("addDelta of a lost one", before, x -> x.addDelta(1), false);
        saves("setLimits of 5", before, x -> x.setLimits(5, 1, 1), false);
        saves("setLost again", before, x -> x.setLost(1, 1), false);
        saves("setLost of no frame", before, x -> x.setLost(2, 1), false);
    }

    private static void otherCallsDoNot(int before) {
        saves("cell", before, x -> x.cell(0), false);
        saves("appendCharacter", before, x -> x.appendCharacter('f'), false);
        saves("clearText", before, Counted::clearText, false);
        saves("digest", before, x -> x.digest(-1, 0, 0), false);
        saves("frame", before, x -> x.frame(0, 2), false);
        saves("code", before, x -> x.code(0, 0, 0), false);
        saves("run", before, x -> x.run(0, 0, 0, 0), false);
        saves("pixel", before, x -> x.pixel(0, 0), false);
        saves("count", before, x -> x.count(6), false);
        saves("costWith", before, x -> x.costWith(0), false);
        saves("difference", before, x -> x.difference(0, -1), false);
        saves("findBlock", before, x -> x.findBlock(0, 0), false);
        saves("falseMatches", before, x -> x.falseMatches(0), false);
        saves("greatestSeek", before, Counted::greatestSeek, false);
        saves("dependents", before, x -> x.dependents(0), false);
        saves("patch", before, x -> x.patch(1), false);
        saves("planCost", before, Counted::planCost, false);
        saves("planKeys", before, Counted::planKeys, false);
    }

    /** A call is successful, and saves a state, also where nothing becomes another. */
    private static void callsWithoutChange() {
        Counted x = Checker.sized(4, 4);
        x.addKey();
        int[] answers = {x.setCell(0, 0), x.draw(), x.setLimits(2, 4, 0), x.recode()};
        int[] wanted = {0, 0, 0, 6};
        for (int i = 0; i < 4; i++) {
            due("answer " + i, answers[i], wanted[i]);
        }
        due("states", x.count(9), 6);
        for (int left = 5; left >= 1; left--) {
            due("undo()", x.undo(), left);
            due("frames", x.count(2), left > 1 ? 1 : 0);
        }
    }

    /** "when a seventh is saved, the oldest one is discarded"; "ILLEGAL_STATE if there is none" */
    private static void sixStates() {
        for (int calls = 0; calls <= 15; calls++) {
            Counted x = new Counted();
            for (int n = 1; n <= calls; n++) {
                x.setCell(0, n);
                due("states after " + n + " calls", x.count(9), Math.min(n, 6));
            }
            int states = Math.min(calls, 6);
            for (int n = 1; n <= states; n++) {
                due("undo " + n + " of " + calls, x.undo(), states - n);
                due("the cell then", x.cell(0), calls - n);
                due("states then", x.count(9), states - n);
            }
            due("undo of none after " + calls, x.undo(), -2);
            due("undo of none again", x.undo(), -2);
            due("the cell stays", x.cell(0), calls - states);
            due("no states", x.count(9), 0);
        }
    }

    /** Calls and undos by turns; the states are kept once more in a list. */
    private static void undoAndGoOn() {
        for (int seed = 0; seed < 200; seed++) {
            Random dice = new Random(seed);
            Counted x = new Counted();
            List<Integer> saved = new ArrayList<>();
            int now = 0;
            while (x.left() >= 3) {
                if (dice.nextInt(5) < 2) {
                    boolean none = saved.isEmpty();
                    now = none ? now : saved.remove(saved.size() - 1);
                    due("undo()", x.undo(), none ? -2 : saved.size());
                } else {
                    saved.add(now);
                    if (saved.size() > 6) {
                        saved.remove(0);
                    }
                    int next = dice.nextInt(16);
                    due("setCell()", x.setCell(63, next), now);
                    now = next;
                }
                due("the cell", x.cell(63), now);
                due("states", x.count(9), saved.size());
            }
        }
    }

    private static int someCall(Counted x, int number) {
        switch (number % 10) {
            case 0:
                return x.setCell(number % 16, number % 7);
            case 1:
                return Checker.draw(x, "shift 1 0;box 1 1 2 2 " + number % 16 + ";");
            case 2:
                return x.addKey();
            case 3:
                return x.addDelta(0);
            case 4:
                return x.addChosen();
            case 5:
                return x.removeLast();
            case 6:
                return x.recode();
            case 7:
                return x.setLimits(number % 5, 9 - number % 3, number % 8);
            case 8:
                return x.setLost(number % 3, number / 10 % 2);
            default:
                return number % 4 == 0 ? x.setSize(8, 4) : x.setCell(3, number % 16);
        }
    }

    /** "restores the most recently saved state", "which consists of everything but the text": all answers are compared. */
    private static void everythingComesBack() {
        for (int seed = 0; seed < 25; seed++) {
            Random dice = new Random(seed);
            int[] numbers = new int[14];
            for (int i = 0; i < numbers.length; i++) {
                numbers[i] = i < 3 ? 2 + i : dice.nextInt(1000);
            }
            List<String> answers = new ArrayList<>();
            int steps = 0;
            for (int calls = 0; calls <= numbers.length; calls++) {
                int n = calls;
                Counted x = after(numbers, n);
                if (n == 0 || x.count(9) > 0 && someCallSucceeds(numbers, n)) {
                    answers.add(Checker.allAnswers(() -> after(numbers, n)));
                    steps++;
                }
            }
            for (int back = 0; back <= Math.min(6, steps - 1); back++) {
                int undos = back;
                String all = Checker.allAnswers(() -> {
                    Counted x = after(numbers, numbers.length);
                    for (int i = 0; i < undos; i++) {
                        x.undo();
                    }
                    return x;
                });
                CHECKER.holds("after " + back + " undos, seed " + seed, all.equals(answers.get(steps - 1 - back)));
            }
        }
    }

    private static Counted after(int[] numbers, int calls) {
        Counted x = Checker.sized(4, 4, "12", "34");
        for (int i = 0; i < calls; i++) {
            someCall(x, numbers[i]);
        }
        return x;
    }

    private static boolean someCallSucceeds(int[] numbers, int calls) {
        return someCall(after(numbers, calls - 1), numbers[calls - 1]) >= 0;
    }

    /** Canvas, size, frames, records, lost marks and the three limits, one by one. */
    private static void eachPartComesBack() {
        Counted x = Checker.sized(12, 4, "123456789abc");
        x.setLimits(3, 5, 7);
        x.addKey();
        x.setLost(0, 1);
        x.setSize(4, 8);
        due("undo()", x.undo(), 5);
        int[] counts = {12, 4, 1, 3, 5, 7, 2 + 3 * 12, 0};
        for (int what = 0; what < counts.length; what++) {
            due("count(" + what + ")", x.count(what), counts[what]);
        }
        due("the cell", x.cell(11), 12);
        due("the lost mark", x.setLost(0, 1), -2);
        due("undo() of setLost", x.undo(), 4);
        due("the pixel", x.pixel(0, 11), 12);
        due("undo() of addKey", x.undo(), 3);
        due("no frame", x.count(2), 0);
        due("undo() of setLimits", x.undo(), 2);
        due("range", x.count(3), 2);
        due("depth limit", x.count(4), 4);
        due("rate", x.count(5), 0);
        due("undo() of setCell", x.undo(), 1);
        due("the cell", x.cell(11), 0);
        due("undo() of setCell", x.undo(), 0);
        due("the cell", x.cell(10), 0);
        due("the cell before", x.cell(9), 10);
        due("undo() of none", x.undo(), -2);
    }

    /** Records of nine blocks that recode() and other frames have been written over. */
    private static void recordsComeBack() {
        Counted x = Checker.sized(12, 12);
        Checker.draw(x, "box 1 1 9 9 5;");
        x.addKey();
        Checker.draw(x, "shift 1 1;box 11 11 1 1 3;");
        x.addKey();
        x.addDelta(0);
        int[][] codes = codes(x, 3);
        x.recode();
        CHECKER.holds("recode() has changed both", x.frame(1, 0) == 0 && x.frame(2, 5) == 9);
        x.setSize(12, 12);
        x.addKey();
        x.addDelta(0);
        x.addDelta(0);
        due("undo()", x.undo(), 5);
        for (int left = 4; left >= 1; left--) {
            due("undo()", x.undo(), left);
        }
        int[][] back = codes(x, 3);
        for (int b = 0; b < 27; b++) {
            for (int part = 0; part < 4; part++) {
                due("part " + part + " of block " + b % 9 + " of frame " + b / 9, back[b][part], codes[b][part]);
            }
        }
        due("the last pixel", x.pixel(2, 143), 3);
    }

    private static int[][] codes(Counted x, int frames) {
        int[][] codes = new int[9 * frames][4];
        for (int b = 0; b < codes.length; b++) {
            for (int part = 0; part < 4; part++) {
                codes[b][part] = x.code(b / 9, b % 9, part);
            }
        }
        return codes;
    }

    private static void textIsNoPart() {
        Counted x = new Counted();
        Checker.type(x, "fill 1;");
        x.setCell(0, 5);
        Checker.type(x, "fill 2;");
        x.undo();
        due("the text is as long as before", x.count(8), 14);
        due("and is drawn whole", x.draw(), 2);
        due("the last command", x.cell(0), 2);
        Checker.type(x, "fill 3;");
        x.undo();
        due("what was typed since stays", x.count(8), 7);
        due("what was drawn does not come back", x.draw(), 1);
        due("the last command", x.cell(0), 3);
        x.setSize(4, 4);
        Checker.type(x, "box 11 11 1 1 9;");
        x.setSize(12, 12);
        x.setCell(0, 1);
        x.undo();
        x.undo();
        due("the size", x.count(0), 4);
        due("the text", x.draw(), 1);
        due("it is drawn on the old size", x.cell(15), 0);
        Checker.type(x, "fill");
        x.undo();
        x.clearText();
        x.undo();
        due("an empty text stays empty", x.count(8), 0);
    }

    private static void newObjectHasNone() {
        Counted x = new Counted();
        due("count(9)", x.count(9), 0);
        due("undo()", x.undo(), -2);
        due("count(9)", x.count(9), 0);
        x.setSize(7, 8);
        due("undo() after an error", x.undo(), -2);
        x.setSize(8, 8);
        due("undo() after setSize", x.undo(), 0);
        due("undo() after undo", x.undo(), -2);
        // one object's states are no other's
        Counted y = new Counted();
        y.setCell(0, 3);
        due("undo() of the other object", x.undo(), -2);
        due("its cell", x.cell(0), 0);
        due("the cell of this one", y.cell(0), 3);
    }
}
