import java.util.Random;
import java.util.function.ToIntFunction;

/** "Records", sentence by sentence: ten frames, codes and run lists, their costs, the range; promises 9, 12 and 16 to 20. */
public final class RecordsEdgeTest {
    private static final Checker CHECKER = new Checker("RecordsEdgeTest");

    public static void main(String[] args) {
        tenFrames("addKey()", Counted::addKey);
        tenFrames("addDelta(0)", x -> x.count(2) == 0 ? x.addKey() : x.addDelta(0));
        tenFrames("addChosen()", Counted::addChosen);
        roomAgain();
        numbersOfFrames();
        referencesAreSmaller();
        keyFramesAreRaw();
        rawRunLists();
        deltaRunLists();
        runsGoOverRows();
        runsOfALaterBlock();
        partsOfCodes();
        leastAndGreatestCosts();
        codesOverOlderOnes();
        decodedByHand();
        recordsStay();
        propertiesOfLost();
        countsOfNothing();
        CHECKER.finish();
    }

    private static void due(String what, long got, long want) {
        CHECKER.due(what, got, want);
    }

    /** "A sequence has at most 10 frames, numbered from 0." */
    private static void tenFrames(String what, ToIntFunction<Counted> add) {
        Counted x = Checker.sized(4, 4);
        for (int f = 0; f < 10; f++) {
            due("frame " + f + " is no frame yet", x.frame(f, 1), -1);
            CHECKER.holds(what + " as frame " + f, add.applyAsInt(x) > 0);
            due("frames after " + what, x.count(2), f + 1);
        }
        due("states after ten times " + what, x.count(9), 6);
        due(what + " with 10 frames", add.applyAsInt(x), -3);
        due(what + " with 10 frames again", add.applyAsInt(x), -3);
        due("frames then", x.count(2), 10);
        due("frame 10", x.frame(10, 1), -1);
        CHECKER.refuses(what + " with 10 frames", () -> tenWith(add), add, -3);
    }

    private static Counted tenWith(ToIntFunction<Counted> add) {
        Counted x = Checker.sized(4, 4, "123");
        for (int f = 0; f < 10; f++) {
            add.applyAsInt(x);
        }
        x.setCell(15, 7);
        return x;
    }

    private static void roomAgain() {
        Counted x = tenWith(Counted::addKey);
        due("removeLast() of ten", x.removeLast(), 9);
        CHECKER.holds("addChosen() has room", x.addChosen() > 0);
        due("addChosen() has none", x.addChosen(), -3);
        due("undo()", x.undo(), 5);
        CHECKER.holds("addDelta(8) has room", x.addDelta(8) > 0);
        due("addDelta(8) has none", x.addDelta(8), -3);
        x.recode();
        due("recode() makes no room", x.addKey(), -3);
        for (int left = 9; left >= 0; left--) {
            due("removeLast()", x.removeLast(), left);
            due("frames", x.count(2), left);
            due("the frame behind the last", x.frame(left, 0), -1);
        }
        due("removeLast() of none", x.removeLast(), -2);
        due("removeLast() of none again", x.removeLast(), -2);
        due("frames", x.count(2), 0);
    }

    /** Of no frames, one and ten: the first, the last, and those before and behind. */
    private static void numbersOfFrames() {
        for (int frames : new int[] {0, 1, 10}) {
            Counted x = Checker.sized(4, 4);
            for (int f = 0; f < frames; f++) {
                x.addKey();
            }
            for (int f : new int[] {-2, -1, 0, 1, 9, 10, 11, Integer.MIN_VALUE, Integer.MAX_VALUE}) {
                boolean is = f >= 0 && f < frames;
                String what = "(" + f + ") of " + frames + " frames";
                due("frame" + what, x.frame(f, 1), is ? 6 : -1);
                due("code" + what, x.code(f, 0, 0), is ? 3 : -1);
                due("run" + what, x.run(f, 0, 0, 0), is ? 16 : -1);
                due("pixel" + what, x.pixel(f, 15), is ? 0 : -1);
                due("dependents" + what, x.dependents(f), is ? 1 : -1);
                due("patch" + what, x.patch(f), is ? -2 : -1);
                due("findBlock" + what, x.findBlock(f, 0), is ? 0 : -1);
                due("setLost" + what, x.setLost(f, 0), is ? -2 : -1);
                boolean image = is || f == -1;
                due("digest" + what, x.digest(f, 0, 0), image ? 1574 : -1);
                due("difference" + what, x.difference(f, -1), image ? 0 : -1);
                due("difference of the canvas and" + what, x.difference(-1, f), image ? 0 : -1);
                due("falseMatches" + what, x.falseMatches(f), image ? 0 : -1);
                due("costWith" + what, x.costWith(f), is ? 3 : image ? 6 : -1);
                due("addDelta" + what, x.addDelta(f), !is ? -1 : frames == 10 ? -3 : 3);
                if (is && frames < 10) {
                    x.undo();
                }
            }
        }
    }

    /** "a reference, which is the number of a smaller frame": neither itself nor one that is yet to come. */
    private static void referencesAreSmaller() {
        Counted x = Checker.sized(4, 4);
        for (int frames = 0; frames < 9; frames++) {
            due("the new frame itself", x.addDelta(frames), -1);
            due("one behind it", x.addDelta(frames + 1), -1);
            x.addKey();
            due("the smallest", x.addDelta(0), 3);
            due("is its reference", x.frame(frames + 1, 0), 0);
            x.undo();
            due("the one before", x.addDelta(frames), 3);
            due("is its reference", x.frame(frames + 1, 0), frames);
            x.undo();
        }
    }

    /** "A key frame has raw blocks only", also if all is equal to a frame before. */
    private static void keyFramesAreRaw() {
        for (int width = 4; width <= 12; width += 4) {
            for (int height = 4; height <= 12; height += 4) {
                int blocks = width * height / 16;
                Counted x = Checker.sized(width, height);
                x.addKey();
                x.addKey();
                x.addChosen();
                due("no reference", x.frame(1, 0), -9);
                int[] kinds = {0, 0, 0, blocks};
                for (int kind = 0; kind < 4; kind++) {
                    due("a key frame's codes of kind " + kind, x.frame(1, 5 + kind), kinds[kind]);
                    due("a kept frame's codes of kind " + kind, x.frame(2, 5 + kind), kinds[3 - kind]);
                }
                for (int b = 0; b < blocks; b++) {
                    due("raw", x.code(1, b, 0), 3);
                    due("of one run", x.code(1, b, 3), 1);
                    due("of 16", x.run(1, b, 0, 0), 16);
                    due("of zeros", x.run(1, b, 0, 1), 0);
                    due("of one run alone", x.run(1, b, 1, 0), -9);
                }
            }
        }
    }

    /** 16 values in just so many runs: two values by turns, then a third one. */
    static int[] inRuns(int runs, int first, int second, int rest) {
        int[] cells = new int[16];
        for (int i = 0; i < 16; i++) {
            cells[i] = i >= runs - 1 ? rest : i % 2 == 0 ? first : second;
        }
        return cells;
    }

    /** "runs of a length and a value, whose lengths sum up to 16; two successive runs have different values" */
    private static void rawRunLists() {
        for (int runs = 1; runs <= 16; runs++) {
            Counted x = Checker.sized(4, 4);
            int[] cells = inRuns(runs, 15, 0, 8);
            Checker.paint(x, cells);
            due("cost of " + runs + " runs", x.addKey(), 2 + 2 + 2 * runs);
            due("number of " + runs + " runs", x.code(0, 0, 3), runs);
            runList("raw", x, 0, cells, runs);
        }
    }

    private static void runList(String what, Counted x, int frame, int[] values, int runs) {
        int cell = 0;
        for (int r = 0; r < runs; r++) {
            int length = r == runs - 1 ? 17 - runs : 1;
            due(what + " of " + runs + ", length of run " + r, x.run(frame, 0, r, 0), length);
            due(what + " of " + runs + ", value of run " + r, x.run(frame, 0, r, 1), values[cell]);
            cell += length;
        }
        due(what + " of " + runs + ", the sum of lengths", cell, 16);
        for (int part = 0; part < 2; part++) {
            due(what + " of " + runs + ", behind the last run", x.run(frame, 0, runs, part), -9);
            due(what + " of " + runs + ", run 16", x.run(frame, 0, 16, part), -9);
            due(what + " of " + runs + ", far behind", x.run(frame, 0, Integer.MAX_VALUE, part), -9);
            due(what + " of " + runs + ", before the first", x.run(frame, 0, -1, part), -1);
        }
        due(what + " of " + runs + ", part 2", x.run(frame, 0, 0, 2), -1);
        due(what + " of " + runs + ", part -1", x.run(frame, 0, 0, -1), -1);
    }

    /** "the sums of the values and those of the reference, modulo 16": over the wrap from 15 to 0 too. */
    private static void deltaRunLists() {
        for (int runs = 1; runs <= 16; runs++) {
            for (int most = 1; most <= 15; most += 6) {
                int[] before = new int[16];
                int[] added = inRuns(runs, 15, 6, most);
                int[] after = new int[16];
                for (int i = 0; i < 16; i++) {
                    before[i] = (i * 3 + 5) % 16;
                    after[i] = (before[i] + added[i]) % 16;
                }
                Counted x = Checker.sized(4, 4);
                Checker.paint(x, before);
                x.addKey();
                Checker.paint(x, after);
                CHECKER.holds("the test's delta is not dearer than raw", x.costWith(-1) >= 4 + 2 * runs);
                due("cost of delta with " + runs + " runs", x.addDelta(0), 2 + 2 + 2 * runs);
                due("it is a delta", x.code(1, 0, 0), 2);
                due("number of " + runs + " runs", x.code(1, 0, 3), runs);
                runList("delta", x, 1, added, runs);
                for (int i = 0; i < 16; i++) {
                    due("pixel " + i, x.pixel(1, i), after[i]);
                }
            }
        }
    }

    /** "row by row": a run goes on in the next row of the block. */
    private static void runsGoOverRows() {
        Counted x = Checker.sized(4, 4, "1112", "2221", "1111", "0011");
        x.addKey();
        int[][] wanted = {{3, 1}, {4, 2}, {5, 1}, {2, 0}, {2, 1}};
        due("runs", x.code(0, 0, 3), wanted.length);
        for (int r = 0; r < wanted.length; r++) {
            due("length of run " + r, x.run(0, 0, r, 0), wanted[r][0]);
            due("value of run " + r, x.run(0, 0, r, 1), wanted[r][1]);
        }
        x = Checker.sized(4, 4, "1234", "1234", "1234", "1234");
        due("columns are 16 runs", x.addKey(), 2 + 2 + 32);
        x = Checker.sized(4, 4, "1111", "2222", "3333", "4444");
        due("rows are four runs", x.addKey(), 2 + 2 + 8);
    }

    /** The rows of a block are four cells long, however wide the image is. */
    private static void runsOfALaterBlock() {
        Counted x = Checker.sized(12, 8);
        Checker.draw(x, "fill 5;box 4 4 4 4 0;box 7 5 1 1 3;box 4 6 2 1 3;");
        due("cost", x.addKey(), 2 + 5 * 4 + 2 + 6);
        int[][] wanted = {{7, 0}, {3, 3}, {6, 0}};
        for (int r = 0; r < 3; r++) {
            due("length of run " + r, x.run(0, 4, r, 0), wanted[r][0]);
            due("value of run " + r, x.run(0, 4, r, 1), wanted[r][1]);
        }
        Checker.draw(x, "box 7 7 1 1 4;");
        due("delta in block 4", x.addDelta(0), 2 + 5 + 2 + 4);
        due("15 zeros", x.run(1, 4, 0, 0), 15);
        due("and a 4", x.run(1, 4, 1, 1), 4);
    }

    /** A frame that has all four kinds of codes, and what is asked of each. */
    private static void partsOfCodes() {
        Counted x = Checker.sized(12, 8);
        Checker.draw(x, "box 4 1 3 3 7;box 4 1 1 1 1;box 2 6 1 1 5;box 9 5 1 1 3;");
        x.addKey();
        Checker.draw(x, "box 4 0 4 4 0;box 5 0 3 3 7;box 5 0 1 1 1;box 0 4 1 1 9;box 8 4 4 4 2;");
        due("keep, move, keep, delta, keep, raw", x.addDelta(0), 2 + 1 + 3 + 1 + 2 + 4 + 1 + 4);
        int[][] wanted = {{0, -9, -9, -9}, {1, -1, 1, -9}, {0, -9, -9, -9}, {2, -9, -9, 2}, {0, -9, -9, -9},
            {3, -9, -9, 1}};
        for (int b = 0; b < wanted.length; b++) {
            for (int part = 0; part < 4; part++) {
                due("block " + b + ", part " + part, x.code(1, b, part), wanted[b][part]);
            }
            due("block " + b + ", part 4", x.code(1, b, 4), -1);
            due("block " + b + ", part -1", x.code(1, b, -1), -1);
            due("block " + b + ", first run", x.run(1, b, 0, 0), b == 3 ? 1 : b == 5 ? 16 : -9);
            due("block " + b + ", first run", x.run(1, b, 0, 1), b == 3 ? 9 : b == 5 ? 2 : -9);
            due("block " + b + ", run -1", x.run(1, b, -1, 0), -1);
            due("block " + b + ", part 2 of a run", x.run(1, b, 0, 2), -1);
        }
        int[] properties = {0, 18, 18 + x.frame(0, 1), 1, 1, 3, 1, 1, 1};
        for (int what = 0; what < properties.length; what++) {
            due("frame(1, " + what + ")", x.frame(1, what), properties[what]);
        }
        due("frame(1, 9)", x.frame(1, 9), -1);
        due("frame(1, -1)", x.frame(1, -1), -1);
    }

    /** "The cost of keep is 1, that of move is 3, that of delta and raw is 2 plus twice the number of runs." */
    private static void leastAndGreatestCosts() {
        int[] least = {6, 10, 14, 10, 18, 26, 14, 26, 38};
        for (int i = 0; i < 9; i++) {
            int width = 4 + i % 3 * 4;
            int height = 4 + i / 3 * 4;
            int blocks = width * height / 16;
            Counted x = Checker.sized(width, height);
            due("the cheapest key frame", x.costWith(-1), least[i]);
            x.addKey();
            due("the cheapest delta", x.addDelta(0), 2 + blocks);
            for (int cell = 0; cell < width * height; cell++) {
                x.setCell(cell, cell / width % 4 * 4 + cell % 4);
            }
            due("the dearest key frame", x.addKey(), 2 + blocks * 34);
            due("the dearest delta", x.addDelta(0), 2 + blocks * 34);
            due("the costs of all records", x.count(6), least[i] + 2 + blocks + 2 * (2 + blocks * 34));
            due("the greatest seek cost", x.greatestSeek(), 2 + blocks * 34 + least[i]);
        }
    }

    /** A frame is coded where another one has been before. */
    private static void codesOverOlderOnes() {
        Counted x = Checker.sized(8, 8);
        x.addKey();
        x.addKey();
        x.removeLast();
        x.addDelta(0);
        for (int b = 0; b < 4; b++) {
            due("keep over raw", x.code(1, b, 0), 0);
            due("keep over raw has no runs", x.code(1, b, 3), -9);
        }
        due("keep codes", x.frame(1, 5), 4);
        due("raw codes", x.frame(1, 8), 0);
        x.undo();
        x.addKey();
        due("raw over keep", x.code(1, 3, 0), 3);
        due("recode() makes them keep", x.recode(), 18 + 6);
        due("keep over raw", x.code(1, 3, 0), 0);
        x.setLost(1, 1);
        x.removeLast();
        x.addKey();
        due("a new one is not lost", x.frame(1, 4), 1);
        x.setSize(4, 4);
        x.addKey();
        x.addDelta(0);
        due("keep after another size", x.code(1, 0, 0), 0);
    }

    /** Images whose blocks are kept, moved and changed: what code() and run() tell gives the pixels, and the costs. */
    private static void decodedByHand() {
        int[] kinds = new int[4];
        for (int seed = 0; seed < 200; seed++) {
            Random dice = new Random(seed);
            int width = 4 + seed % 3 * 4;
            int height = width == 12 ? 4 : 8;
            Counted x = Checker.sized(width, height);
            x.setLimits(dice.nextInt(5), 9, 0);
            // more of the greater images would take too many calls
            int[][] images = new int[width == 8 ? 2 : 3][];
            for (int f = 0; f < images.length; f++) {
                paintSome(x, dice, width, height);
                int cost = f == 0 ? x.addKey() : x.addDelta(dice.nextInt(f));
                int[] sum = {2};
                images[f] = decode(x, f, images, sum);
                due("the sum of its codes' costs, frame " + f + ", seed " + seed, sum[0], cost);
                int wrong = 0;
                for (int cell = 0; cell < width * height; cell++) {
                    wrong += x.pixel(f, cell) == images[f][cell] ? 0 : 1;
                }
                due("wrong cells of frame " + f + ", seed " + seed, wrong, 0);
                for (int kind = 0; kind < 4; kind++) {
                    kinds[kind] += x.frame(f, 5 + kind);
                }
            }
        }
        for (int kind = 0; kind < 4; kind++) {
            CHECKER.holds("codes of kind " + kind + " were seen", kinds[kind] > 20);
        }
    }

    private static void paintSome(Counted x, Random dice, int width, int height) {
        boolean shifted = x.count(2) > 0 && dice.nextInt(4) > 0;
        if (shifted) {
            Checker.draw(x, "shift " + (dice.nextInt(3) - 1) + " " + (dice.nextInt(3) - 1) + ";");
        }
        for (int n = shifted ? dice.nextInt(2) : 3; n > 0; n--) {
            Checker.draw(x, "box " + dice.nextInt(width) + " " + dice.nextInt(height) + " " + dice.nextInt(5) + " "
                    + dice.nextInt(5) + " " + dice.nextInt(16) + ";");
        }
    }

    /** The cells that a record gives; the costs of its codes are added up. */
    private static int[] decode(Counted x, int frame, int[][] images, int[] sum) {
        int width = x.count(0);
        int[] image = new int[width * x.count(1)];
        int reference = x.frame(frame, 0);
        for (int b = 0; b < image.length / 16; b++) {
            int corner = b / (width / 4) * 4 * width + b % (width / 4) * 4;
            int kind = x.code(frame, b, 0);
            int runs = x.code(frame, b, 3);
            int from = kind == 1 ? corner + x.code(frame, b, 2) * width + x.code(frame, b, 1) : corner;
            sum[0] += kind == 0 ? 1 : kind == 1 ? 3 : 2 + 2 * runs;
            int run = -1;
            int left = 0;
            int added = 0;
            for (int i = 0; i < 16; i++) {
                int step = i / 4 * width + i % 4;
                int value = kind == 3 ? 0 : images[reference][from + step];
                if (kind >= 2) {
                    if (left == 0) {
                        run++;
                        left = x.run(frame, b, run, 0);
                        added = x.run(frame, b, run, 1);
                    }
                    value = (value + added) % 16;
                    left--;
                }
                image[corner + step] = value;
            }
        }
        return image;
    }

    /** What a record is stays, whatever becomes of the canvas and of the limits. */
    private static void recordsStay() {
        Counted x = Checker.sized(4, 4, "1234");
        x.addKey();
        x.setCell(0, 5);
        x.addDelta(0);
        Checker.draw(x, "fill 9;");
        x.setLimits(0, 0, 9);
        due("the first frame's cost", x.frame(0, 1), 2 + 2 + 2 * 5);
        due("the second frame's cost", x.frame(1, 1), 2 + 2 + 2 * 2);
        due("its first run", x.run(1, 0, 0, 1), 4);
        due("its pixel", x.pixel(1, 0), 5);
        due("its depth", x.frame(1, 3), 1);
        due("the first frame's pixel", x.pixel(0, 0), 1);
        x.addKey();
        x.removeLast();
        due("its pixel", x.pixel(1, 0), 5);
    }

    private static void propertiesOfLost() {
        Counted x = Checker.sized(4, 4, "1234");
        x.addKey();
        x.addDelta(0);
        x.setLost(0, 1);
        int[][] wanted = {{-9, 14, 14, 0, 0, 0, 0, 0, 1}, {0, 3, 17, 1, 0, 1, 0, 0, 0}};
        for (int f = 0; f < 2; f++) {
            for (int what = 0; what < 9; what++) {
                due("lost: frame(" + f + ", " + what + ")", x.frame(f, what), wanted[f][what]);
            }
            due("lost: kind", x.code(f, 0, 0), f == 0 ? 3 : 0);
            due("lost: runs", x.code(f, 0, 3), f == 0 ? 5 : -9);
            due("lost: value of a run", x.run(f, 0, 3, 1), f == 0 ? 4 : -9);
        }
        due("lost: the costs of all records", x.count(6), 17);
        due("lost: frames", x.count(2), 2);
    }

    private static void countsOfNothing() {
        Counted x = new Counted();
        due("costs of no records", x.count(6), 0);
        due("none can be decoded", x.count(7), 0);
        due("count(9) before any call", x.count(9), 0);
        due("count(10)", x.count(10), -1);
        due("count(-1)", x.count(-1), -1);
        x.addKey();
        x.setLost(0, 1);
        x.removeLast();
        due("costs of no records", x.count(6), 0);
        due("none can be decoded", x.count(7), 0);
    }
}
