/** Promises 9 to 16, 19 and 20: frames as they are added, removed, coded anew, lost and asked. */
public final class FrameTest {
    private static final Checker CHECKER = new Checker("FrameTest");

    public static void main(String[] args) {
        adding();
        longestChain();
        removing();
        recoding();
        recodingOneFrame();
        recodingWithRange();
        limits();
        losing();
        frameErrors();
        pixels();
        counts();
        CHECKER.finish();
    }

    private static void due(String what, long got, long want) {
        CHECKER.due(what, got, want);
    }

    private static void adding() {
        Counted x = Checker.sized(4, 4);
        due("promise 10: no frame yet", x.addDelta(0), -1);
        due("promise 9: addKey()", x.addKey(), 6);
        due("promise 10: frame 1", x.addDelta(1), -1);
        due("promise 10: frame -1", x.addDelta(-1), -1);
        due("promise 10: far out", x.addDelta(Integer.MAX_VALUE), -1);
        x.setLost(0, 1);
        due("promise 10: lost", x.addDelta(0), -2);
        x.setLost(0, 0);
        for (int f = 1; f <= 4; f++) {
            due("promise 10: chain", x.addDelta(f - 1), 3);
            due("promise 16: depth", x.frame(f, 3), f);
            due("promise 16: seek cost", x.frame(f, 2), 6 + 3 * f);
        }
        due("promise 10: depth 4 is at the first limit", x.addDelta(4), -2);
        for (int f = 5; f < 10; f++) {
            due("promise 9: addKey()", x.addKey(), 6);
        }
        int saved = x.count(9);
        due("promise 9: full", x.addKey(), -3);
        due("promise 10: full", x.addDelta(0), -3);
        due("promise 10: full, and too deep", x.addDelta(4), -2);
        due("promise 10: full, and no such frame", x.addDelta(10), -1);
        due("promise 11: full", x.addChosen(), -3);
        due("promise 9 to 11: nothing is saved", x.count(9), saved);
        x.setLost(0, 1);
        due("promise 10: full, and lost", x.addDelta(1), -2);
    }

    private static void longestChain() {
        Counted x = Checker.sized(4, 4);
        x.setLimits(2, 9, 0);
        x.addKey();
        for (int f = 1; f < 10; f++) {
            due("promise 10: the longest chain", x.addDelta(f - 1), 3);
        }
        due("promise 16: depth", x.frame(9, 3), 9);
        due("promise 16: seek cost", x.frame(9, 2), 6 + 9 * 3);
        due("promise 25: greatestSeek()", x.greatestSeek(), 33);
        due("promise 26: dependents(0)", x.dependents(0), 10);
        due("promise 15: the key frame is lost", x.setLost(0, 1), 0);
        due("promise 16: the last cannot be decoded", x.frame(9, 4), 0);
        due("promise 10: at depth 9", x.addDelta(9), -2);
    }

    private static void removing() {
        Counted x = Checker.sized(4, 4);
        due("promise 12: none", x.removeLast(), -2);
        x.addKey();
        x.setCell(0, 1);
        x.addDelta(0);
        x.setLost(1, 1);
        due("promise 12: removeLast()", x.removeLast(), 1);
        due("promise 12: it is gone", x.frame(1, 0), -1);
        due("promise 12: the canvas stays", x.cell(0), 1);
        due("promise 12: the next one", x.addKey(), 8);
        due("promise 12: is not lost", x.frame(1, 4), 1);
        due("promise 12: and a key frame", x.frame(1, 0), -9);
        due("promise 12: removeLast()", x.removeLast(), 1);
        due("promise 12: removeLast()", x.removeLast(), 0);
        due("promise 12: none left", x.removeLast(), -2);
        due("promise 12: the size stays", x.count(0), 4);
    }

    private static void recoding() {
        Counted x = Checker.sized(4, 4, "1234", "1234", "1234", "1234");
        due("promise 13: none", x.recode(), -2);
        x.addKey();
        x.setCell(15, 5);
        x.addKey();
        Checker.draw(x, "fill 2;");
        x.addDelta(0);
        Checker.draw(x, "fill 3;");
        x.addKey();
        x.setLost(0, 1);
        x.setLost(3, 1);
        x.setCell(1, 9);
        // 36, then 8 as a delta (6 zeros and a 1), then 6 either way: a tie goes to fewer key frames
        due("promise 28: planCost()", x.planCost(), 36 + 8 + 6 + 6);
        due("promise 29: planKeys()", x.planKeys(), 1);
        due("promise 13: recode()", x.recode(), 56);
        due("promise 13: no record is lost then", x.count(7), 4);
        due("promise 13: the cost of all records", x.count(6), 56);
        due("promise 13: frame 0", x.frame(0, 0), -9);
        for (int f = 1; f < 4; f++) {
            due("promise 13: the frame before", x.frame(f, 0), f - 1);
        }
        due("promise 13: delta", x.code(1, 0, 0), 2);
        due("promise 13: raw", x.code(2, 0, 0), 3);
        due("promise 13: a tie", x.code(3, 0, 0), 2);
        due("promise 13: the images stay", x.pixel(1, 15), 5);
        due("promise 13: the images stay", x.pixel(2, 15), 2);
        due("promise 13: the images stay", x.pixel(0, 15), 4);
        due("promise 13: the canvas stays", x.cell(1), 9);
        due("promise 13: the same again", x.recode(), 56);
        x.setLimits(2, 0, 1);
        // the depth limit binds no plan; with rate 1 the greatest seek is 44 with the key frames 0 and 2
        due("promise 13: with a rate", x.recode(), 56 + 44);
        due("promise 13: the key frames", x.frame(2, 0), -9);
        due("promise 13: the key frames", x.frame(1, 0), 0);
        due("promise 13: the key frames", x.frame(3, 0), 2);
    }

    private static void recodingOneFrame() {
        Counted x = Checker.sized(4, 4);
        x.setLimits(2, 4, 3);
        x.addKey();
        x.setLost(0, 1);
        due("promise 28: one frame", x.planCost(), 6 + 3 * 6);
        due("promise 29: one frame", x.planKeys(), 1);
        due("promise 13: one frame", x.recode(), 24);
        due("promise 13: it is not lost then", x.count(7), 1);
        due("promise 13: its cost", x.frame(0, 1), 6);
    }

    private static void recodingWithRange() {
        Counted x = Checker.sized(8, 4, "00123456", "00789abc", "00def123", "00456789");
        x.addKey();
        Checker.draw(x, "shift -2 0;");
        due("promise 14: range 2", x.addDelta(0), x.costWith(0));
        due("promise 17: a move", x.code(1, 0, 0), 1);
        x.setLimits(1, 4, 0);
        due("promise 14: records stay", x.code(1, 0, 0), 1);
        x.recode();
        CHECKER.holds("promise 13: the present range", x.code(1, 0, 0) != 1);
        x.setLimits(2, 4, 0);
        x.recode();
        due("promise 13: the present range", x.code(1, 0, 0), 1);
    }

    private static void limits() {
        Counted x = new Counted();
        due("promise 14: the same", x.setLimits(2, 4, 0), 0);
        due("promise 14: range", x.setLimits(0, 4, 0), 1);
        due("promise 14: depth", x.setLimits(0, 9, 0), 1);
        due("promise 14: rate", x.setLimits(0, 9, 9), 1);
        due("promise 14: the same", x.setLimits(0, 9, 9), 0);
        due("promise 14: the same is saved too", x.count(9), 5);
        int[][] wrong = {{-1, 4, 0}, {5, 4, 0}, {2, -1, 0}, {2, 10, 0}, {2, 4, -1}, {2, 4, 10}};
        for (int[] w : wrong) {
            due("promise 14: out of range", x.setLimits(w[0], w[1], w[2]), -1);
        }
        due("promise 14: range", x.count(3), 0);
        due("promise 14: depth", x.count(4), 9);
        due("promise 14: rate", x.count(5), 9);
        due("promise 14: nothing is saved", x.count(9), 5);
        due("promise 14: greatest", x.setLimits(4, 0, 0), 1);
        due("promise 14: range", x.count(3), 4);
    }

    private static void losing() {
        Counted x = Checker.sized(4, 4);
        due("promise 15: no frame", x.setLost(0, 1), -1);
        x.addKey();
        x.addDelta(0);
        x.addDelta(1);
        x.addKey();
        due("promise 15: it is so", x.setLost(1, 0), -2);
        due("promise 15: the middle", x.setLost(1, 1), 2);
        due("promise 15: it is so", x.setLost(1, 1), -2);
        due("promise 16: frame 0", x.frame(0, 4), 1);
        due("promise 16: frame 1", x.frame(1, 4), 0);
        due("promise 16: frame 2", x.frame(2, 4), 0);
        due("promise 16: frame 3", x.frame(3, 4), 1);
        due("promise 15: the first", x.setLost(0, 1), 1);
        due("promise 15: one that cannot be decoded", x.setLost(2, 1), 1);
        due("promise 15: the last", x.setLost(3, 1), 0);
        due("promise 15: back", x.setLost(1, 0), 0);
        due("promise 15: back", x.setLost(0, 0), 2);
        due("promise 15: back", x.setLost(2, 0), 3);
        due("promise 15: on 2", x.setLost(0, 2), -1);
        due("promise 15: on -1", x.setLost(0, -1), -1);
        due("promise 15: frame 4", x.setLost(4, 1), -1);
        due("promise 15: frame -1", x.setLost(-1, 0), -1);
        due("promise 15: frame -1 and on 2", x.setLost(-1, 2), -1);
        due("promise 20: count(7)", x.count(7), 3);
        due("promise 16: a lost record has its properties", x.frame(3, 1), 6);
        due("promise 16: a lost record has its properties", x.frame(3, 2), 6);
    }

    private static void frameErrors() {
        Counted x = Checker.sized(4, 4);
        x.addKey();
        due("promise 16: what 9", x.frame(0, 9), -1);
        due("promise 16: what -1", x.frame(0, -1), -1);
        due("promise 16: frame 1", x.frame(1, 0), -1);
        due("promise 16: frame -1", x.frame(-1, 0), -1);
        due("promise 16: far out", x.frame(Integer.MAX_VALUE, Integer.MIN_VALUE), -1);
        int[] wanted = {-9, 6, 6, 0, 1, 0, 0, 0, 1};
        for (int what = 0; what < wanted.length; what++) {
            due("promise 16: frame(0, " + what + ")", x.frame(0, what), wanted[what]);
        }
    }

    private static void pixels() {
        Counted x = Checker.sized(4, 8);
        x.setCell(31, 3);
        x.addKey();
        x.setCell(31, 4);
        x.addDelta(0);
        due("promise 19: pixel(0, 31)", x.pixel(0, 31), 3);
        due("promise 19: pixel(1, 31)", x.pixel(1, 31), 4);
        due("promise 19: pixel(1, 0)", x.pixel(1, 0), 0);
        due("promise 19: cell 32", x.pixel(0, 32), -1);
        due("promise 19: cell -1", x.pixel(0, -1), -1);
        due("promise 19: frame 2", x.pixel(2, 0), -1);
        due("promise 19: the canvas", x.pixel(-1, 0), -1);
        x.setLost(0, 1);
        due("promise 19: lost", x.pixel(0, 31), -2);
        due("promise 19: behind a lost one", x.pixel(1, 31), -2);
        due("promise 19: lost and cell 32", x.pixel(1, 32), -1);
        x.setLost(0, 0);
        due("promise 19: found again", x.pixel(1, 31), 4);
    }

    private static void counts() {
        Counted x = new Counted();
        x.setSize(12, 4);
        x.setLimits(3, 5, 7);
        x.addKey();
        x.addDelta(0);
        x.addKey();
        x.setLost(0, 1);
        Checker.type(x, "abc");
        int[] wanted = {12, 4, 3, 3, 5, 7, 14 + 5 + 14, 1, 3, 6};
        for (int what = 0; what < wanted.length; what++) {
            due("promise 20: count(" + what + ")", x.count(what), wanted[what]);
        }
        due("promise 20: count(10)", x.count(10), -1);
        due("promise 20: count(-1)", x.count(-1), -1);
        due("promise 20: far out", x.count(Integer.MIN_VALUE), -1);
    }
}
