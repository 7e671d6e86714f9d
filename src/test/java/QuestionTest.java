/** Promises 21 to 29: questions that change nothing. */
public final class QuestionTest {
    private static final Checker CHECKER = new Checker("QuestionTest");

    public static void main(String[] args) {
        costs();
        differences();
        finding();
        findingErrors();
        matches();
        neighbours();
        lastCorner();
        seeks();
        dependent();
        patches();
        patchOfAllCells();
        plans();
        planTies();
        planOfNumbers();
        CHECKER.finish();
    }

    private static void due(String what, long got, long want) {
        CHECKER.due(what, got, want);
    }

    private static void costs() {
        Counted x = Checker.sized(4, 4);
        due("promise 21: a key frame", x.costWith(-1), 6);
        due("promise 21: no frame", x.costWith(0), -1);
        due("promise 21: -2", x.costWith(-2), -1);
        x.addKey();
        x.addDelta(0);
        due("promise 21: with 1", x.costWith(1), 3);
        x.setCell(0, 1);
        due("promise 21: with 1, changed", x.costWith(1), 8);
        due("promise 21: frame 2", x.costWith(2), -1);
        x.setLost(0, 1);
        due("promise 21: lost", x.costWith(0), -2);
        due("promise 21: behind a lost one", x.costWith(1), -2);
        due("promise 21: a key frame needs none", x.costWith(-1), 8);
        due("promise 21: no frame, one lost", x.costWith(2), -1);
    }

    private static void differences() {
        Counted x = Checker.sized(4, 8);
        x.addKey();
        x.setCell(0, 1);
        x.setCell(31, 1);
        due("promise 22: canvas and 0", x.difference(-1, 0), 2);
        due("promise 22: 0 and canvas", x.difference(0, -1), 2);
        x.addDelta(0);
        Checker.draw(x, "fill 1;");
        due("promise 22: canvas and 0", x.difference(-1, 0), 32);
        due("promise 22: canvas and 1", x.difference(-1, 1), 30);
        due("promise 22: 0 and 1", x.difference(0, 1), 2);
        due("promise 22: the same", x.difference(1, 1), 0);
        due("promise 22: the canvas alone", x.difference(-1, -1), 0);
        due("promise 22: 2", x.difference(0, 2), -1);
        due("promise 22: -2", x.difference(-2, 0), -1);
        x.setLost(1, 1);
        due("promise 22: lost", x.difference(1, -1), -2);
        due("promise 22: lost", x.difference(0, 1), -2);
        due("promise 22: lost, and no such frame", x.difference(1, 2), -1);
        due("promise 22: not lost", x.difference(0, -1), 32);
    }

    private static void finding() {
        Counted x = new Counted();
        x.setSize(12, 12);
        Checker.draw(x, "box 5 3 4 4 7;box 3 8 4 4 7;");
        x.addKey();
        Checker.draw(x, "fill 0;box 8 0 4 4 7;box 4 4 1 1 9;");
        due("promise 23: the smallest y", x.findBlock(0, 2), 503);
        due("promise 23: zeros", x.findBlock(0, 0), 0);
        due("promise 23: none", x.findBlock(0, 4), -9);
        Checker.draw(x, "fill 0;box 8 8 4 4 7;box 0 8 4 4 7;");
        x.addKey();
        due("promise 23: of the same y the smallest x", x.findBlock(1, 8), 8);
        due("promise 23: the last corner", x.findBlock(1, 6), 8);
        Checker.draw(x, "fill 0;box 8 8 4 4 1;");
        x.addKey();
        due("promise 23: the last corner", x.findBlock(2, 8), 808);
        Checker.draw(x, "fill 0;box 0 0 3 4 5;");
        x.addKey();
        Checker.draw(x, "fill 0;box 9 8 3 4 5;box 0 0 1 1 1;");
        due("promise 23: not across the edge", x.findBlock(3, 8), -9);
        x = Checker.sized(4, 4, "1111");
        x.addKey();
        Checker.draw(x, "fill 0;");
        due("promise 23: not below the edge", x.findBlock(0, 0), -9);
    }

    private static void findingErrors() {
        Counted x = Checker.sized(4, 8);
        x.addKey();
        due("promise 23: block 2", x.findBlock(0, 2), -1);
        due("promise 23: block -1", x.findBlock(0, -1), -1);
        due("promise 23: frame 1", x.findBlock(1, 0), -1);
        due("promise 23: the canvas", x.findBlock(-1, 0), -1);
        due("promise 23: block 1", x.findBlock(0, 1), 0);
        x.setLost(0, 1);
        due("promise 23: lost", x.findBlock(0, 1), -2);
        due("promise 23: lost and block 2", x.findBlock(0, 2), -1);
    }

    /** 9973 parts into a number system of 31: parts with the same digest are made by hand. */
    private static void matches() {
        Counted x = new Counted();
        x.setSize(4, 4);
        due("promise 24: one part", x.falseMatches(-1), 0);
        x.setSize(12, 12);
        due("promise 24: equal parts are no false ones", x.falseMatches(-1), 0);
        x.setSize(12, 4);
        int[] other = sameDigestAsZeros();
        CHECKER.holds("promise 24: the test found its part", other.length == 16);
        int[] cells = new int[48];
        for (int i = 0; i < 16; i++) {
            cells[i / 4 * 12 + 8 + i % 4] = other[i];
        }
        Checker.paint(x, cells);
        due("promise 24: digests", x.digest(-1, 8, 0), x.digest(-1, 0, 0));
        long pairs = pairsOf(cells, x);
        CHECKER.holds("promise 24: there are false ones", pairs > 0);
        due("promise 24: false matches of the canvas", x.falseMatches(-1), pairs);
        x.addKey();
        x.addDelta(0);
        Checker.draw(x, "fill 0;");
        due("promise 24: false matches of a frame", x.falseMatches(1), pairs);
        due("promise 24: of the canvas then", x.falseMatches(-1), 0);
        due("promise 24: frame 2", x.falseMatches(2), -1);
        due("promise 24: frame -2", x.falseMatches(-2), -1);
        x.setLost(0, 1);
        due("promise 24: behind a lost one", x.falseMatches(1), -2);
        due("promise 24: no such frame", x.falseMatches(2), -1);
        due("promise 24: the canvas", x.falseMatches(-1), 0);
    }

    /** Parts that overlap by three rows, made the same digest by the last row. */
    private static void neighbours() {
        int[] image = {1, 2, 3, 4, 5, 6, 7, 8, 9, 10, 11, 12, 13, 14, 15, 1, 0, 0, 0, 0};
        boolean made = false;
        for (int number = 0; number < 65536 && !made; number++) {
            for (int i = 16; i < 20; i++) {
                image[i] = number >> 4 * (i - 16) & 15;
            }
            made = digestOf(image, 0) == digestOf(image, 4);
        }
        CHECKER.holds("promise 24: the test found its row", made);
        Counted x = Checker.sized(4, 8);
        Checker.paint(x, image);
        due("promise 24: digests", x.digest(-1, 0, 0), x.digest(-1, 0, 1));
        due("promise 24: neighbours", x.falseMatches(-1), 1);
    }

    private static int digestOf(int[] cells, int from) {
        int digest = 7;
        for (int i = 0; i < 16; i++) {
            digest = (digest * 31 + cells[from + i]) % 9973;
        }
        return digest;
    }

    /** A part in the last corner of 12 by 12 cells; what touches it is asked for its digest by hand. */
    private static void lastCorner() {
        int[] other = sameDigestAsZeros();
        int[] cells = new int[144];
        for (int i = 0; i < 16; i++) {
            cells[(8 + i / 4) * 12 + 8 + i % 4] = other[i];
        }
        Counted x = Checker.sized(12, 12);
        Checker.paint(x, cells);
        int zeros = 0;
        int alike = 0;
        for (int p = 0; p < 81; p++) {
            boolean isZero = isZero(cells, p / 9 * 12 + p % 9);
            zeros += isZero ? 1 : 0;
            alike += !isZero && x.digest(-1, p % 9, p / 9) == 1574 ? 1 : 0;
        }
        CHECKER.holds("promise 24: the last corner is alike", alike > 0);
        due("promise 24: with the last corner", x.falseMatches(-1), zeros * alike);
    }

    private static boolean isZero(int[] cells, int corner) {
        for (int i = 0; i < 16; i++) {
            if (cells[corner + i / 4 * 12 + i % 4] != 0) {
                return false;
            }
        }
        return true;
    }

    private static int[] sameDigestAsZeros() {
        int[] cells = new int[16];
        for (int number = 1; number < 1 << 20; number++) {
            int digest = 7;
            for (int i = 0; i < 16; i++) {
                cells[i] = i < 11 ? 0 : number >> 4 * (i - 11) & 15;
                digest = (digest * 31 + cells[i]) % 9973;
            }
            if (digest == 1574) {
                return cells;
            }
        }
        return new int[0];
    }

    private static long pairsOf(int[] cells, Counted x) {
        long pairs = 0;
        for (int a = 0; a <= 8; a++) {
            for (int b = a + 1; b <= 8; b++) {
                boolean unlike = false;
                for (int i = 0; i < 16; i++) {
                    int row = i / 4 * 12 + i % 4;
                    unlike |= cells[row + a] != cells[row + b];
                }
                if (unlike && x.digest(-1, a, 0) == x.digest(-1, b, 0)) {
                    pairs++;
                }
            }
        }
        return pairs;
    }

    private static void seeks() {
        Counted x = Checker.sized(4, 4, "1200", "0000", "0000", "0000");
        due("promise 25: none", x.greatestSeek(), -9);
        x.addKey();
        due("promise 25: one", x.greatestSeek(), 10);
        x.addDelta(0);
        x.addDelta(1);
        x.addDelta(0);
        due("promise 25: a chain", x.greatestSeek(), 16);
        x.setLost(2, 1);
        due("promise 25: lost ones too", x.greatestSeek(), 16);
        Checker.draw(x, "fill 0;swap 0 1;");
        x.addKey();
        due("promise 25: not the last", x.greatestSeek(), 16);
        x.setSize(4, 4);
        due("promise 25: none", x.greatestSeek(), -9);
    }

    private static void dependent() {
        Counted x = Checker.sized(4, 4);
        due("promise 26: none", x.dependents(0), -1);
        x.addKey();
        x.addDelta(0);
        x.addDelta(1);
        x.addDelta(0);
        x.addKey();
        x.addDelta(4);
        int[] wanted = {4, 2, 1, 1, 2, 1};
        for (int f = 0; f < wanted.length; f++) {
            due("promise 26: dependents(" + f + ")", x.dependents(f), wanted[f]);
        }
        x.setLost(1, 1);
        x.setLost(5, 1);
        for (int f = 0; f < wanted.length; f++) {
            due("promise 26: with lost ones, dependents(" + f + ")", x.dependents(f), wanted[f]);
        }
        due("promise 26: frame 6", x.dependents(6), -1);
        due("promise 26: frame -1", x.dependents(-1), -1);
    }

    private static void patches() {
        Counted x = Checker.sized(4, 4);
        x.addKey();
        x.setCell(0, 1);
        x.addKey();
        x.setCell(1, 1);
        x.addKey();
        x.setCell(2, 1);
        x.addKey();
        x.addDelta(3);
        due("promise 27: not lost", x.patch(2), -2);
        due("promise 27: frame 5", x.patch(5), -1);
        due("promise 27: frame -1", x.patch(-1), -1);
        x.setLost(2, 1);
        due("promise 27: of equal ones the smallest number", x.patch(2), 1);
        x.setLost(1, 1);
        due("promise 27: the fewest cells", x.patch(2), 3);
        due("promise 27: the fewest cells", x.patch(1), 0);
        x.setLost(3, 1);
        due("promise 27: just frame 0 can be decoded", x.patch(3), 0);
        due("promise 27: not lost itself, but not decoded", x.patch(4), -2);
        x.setLost(0, 1);
        due("promise 27: none", x.patch(2), -9);
        due("promise 27: not lost, and none", x.patch(4), -2);
    }

    private static void patchOfAllCells() {
        Counted x = new Counted();
        x.setSize(12, 12);
        x.addKey();
        Checker.draw(x, "fill 1;");
        x.addKey();
        x.setLost(1, 1);
        due("promise 27: all cells differ", x.patch(1), 0);
        due("promise 22: all cells differ", x.difference(0, -1), 144);
    }

    /** Every set by itself: sums and chains are made from what costWith says of the images. */
    private static void plans() {
        Counted x = new Counted();
        due("promise 28: none", x.planCost(), -9);
        due("promise 29: none", x.planKeys(), -9);
        x.setSize(8, 8);
        int frames = 7;
        int[] keys = new int[frames];
        int[] deltas = new int[frames];
        for (int f = 0; f < frames; f++) {
            for (int i = 0; i <= f * 5; i++) {
                x.setCell((f * f * 11 + i * 7) % 64, (f * 3 + i) % 16);
            }
            keys[f] = x.costWith(-1);
            deltas[f] = f > 0 ? x.costWith(f - 1) : 0;
            x.addKey();
        }
        for (int rate = 0; rate <= 9; rate++) {
            x.setLimits(2, 0, rate);
            long[] best = bestPlan(keys, deltas, rate);
            due("promise 28: with rate " + rate, x.planCost(), best[0]);
            due("promise 29: with rate " + rate, x.planKeys(), best[1]);
        }
        x.setLost(3, 1);
        due("promise 28: lost records do not matter", x.planCost(), bestPlan(keys, deltas, 9)[0]);
        due("promise 29: lost records do not matter", x.planKeys(), bestPlan(keys, deltas, 9)[1]);
    }

    private static long[] bestPlan(int[] keys, int[] deltas, int rate) {
        long[] best = {Long.MAX_VALUE, 0};
        for (int set = (1 << keys.length) - 1; set > 0; set--) {
            if (set % 2 == 0) {
                continue;
            }
            long sum = 0;
            long greatest = 0;
            for (int f = 0; f < keys.length; f++) {
                long seek = 0;
                int g = f;
                while ((set >> g) % 2 == 0) {
                    seek += deltas[g];
                    g--;
                }
                greatest = Math.max(greatest, seek + keys[g]);
                sum += (set >> f) % 2 == 0 ? deltas[f] : keys[f];
            }
            long cost = sum + rate * greatest;
            int fewer = Integer.bitCount(set) - Integer.bitCount((int) best[1]);
            if (cost < best[0] || (cost == best[0] && fewer <= 0)) {
                best = new long[] {cost, set};
            }
        }
        return best;
    }

    private static void planTies() {
        Counted x = Checker.sized(4, 4);
        for (int f = 0; f < 10; f++) {
            Checker.draw(x, "fill " + f + ";");
            x.addKey();
        }
        due("promise 28: all cost 6", x.planCost(), 60);
        due("promise 29: the fewest key frames", x.planKeys(), 1);
        x.setLimits(2, 4, 1);
        due("promise 28: seek cost 6", x.planCost(), 66);
        due("promise 29: all are key frames", x.planKeys(), 1023);
    }

    /** Three even images of 4 by 4 cells with one that differs: two key frames, of two sets the smaller. */
    private static void planOfNumbers() {
        Counted x = Checker.sized(4, 4);
        for (int f = 0; f < 3; f++) {
            x.addKey();
        }
        x.setLimits(2, 4, 2);
        // {0}: 12 + 2 * 12; {0, 1} and {0, 2}: 15 + 2 * 9; {0, 1, 2}: 18 + 2 * 6
        due("promise 28: rate 2", x.planCost(), 30);
        due("promise 29: rate 2", x.planKeys(), 7);
        x.setLimits(2, 4, 1);
        due("promise 28: rate 1 is a tie of all", x.planCost(), 24);
        due("promise 29: rate 1", x.planKeys(), 1);
        x.addKey();
        // {0}: 15 + 15; {0, 2}: 18 + 9 + ..: with rate 2 {0}: 45, {0, 2}: 18 + 18, all: 24 + 12
        x.setLimits(2, 4, 2);
        due("promise 28: four frames", x.planCost(), 36);
        due("promise 29: four frames, two key frames", x.planKeys(), 5);
        x.addKey();
        // five frames: two key frames give 21 + 2 * 12 = 45, three 24 + 2 * 9 = 42, five 30 + 2 * 6 = 42
        due("promise 28: five frames", x.planCost(), 42);
        due("promise 29: the smallest number of {0,1,3}, {0,2,3}, {0,2,4}", x.planKeys(), 11);
    }
}
