import java.util.Random;

/** Promises 23 and 24, sentence by sentence: blocks that are found anywhere, and parts with the same digest. */
public final class MatchesEdgeTest {
    private static final Checker CHECKER = new Checker("MatchesEdgeTest");

    private static int falseOnes = 0;
    private static int overlapping = 0;

    public static void main(String[] args) {
        everyPlace();
        firstOfTwo();
        notOverTheEdge();
        blocksOfTheCanvas();
        noMatches();
        randomMatches();
        manyMatches();
        oneAlone();
        narrowImages();
        CHECKER.finish();
    }

    private static void due(String what, long got, long want) {
        CHECKER.due(what, got, want);
    }

    /** "Returns 100 * x + y of its top left corner", from the first part to the last one of each size. */
    private static void everyPlace() {
        for (int width = 4; width <= 12; width += 4) {
            for (int height = 4; height <= 12; height += 4) {
                for (int top = 0; top <= height - 4; top++) {
                    for (int left = 0; left <= width - 4; left++) {
                        Counted x = Checker.sized(width, height);
                        Checker.draw(x, "box " + left + " " + top + " 4 4 7;");
                        x.addKey();
                        int last = width * height / 16 - 1;
                        Checker.draw(x, "fill 0;box " + (width - 4) + " " + (height - 4) + " 4 4 7;");
                        due("the part at " + left + ", " + top, x.findBlock(0, last), 100 * left + top);
                        due("behind the last block", x.findBlock(0, last + 1), -1);
                    }
                }
            }
        }
    }

    /** "the one with the smallest y, of several the one with the smallest x" */
    private static void firstOfTwo() {
        for (int one = 0; one < 81; one += 2) {
            for (int two = one + 1; two < 81; two++) {
                Counted x = Checker.sized(12, 12);
                Checker.draw(x, "box " + one % 9 + " " + one / 9 + " 4 4 7;box " + two % 9 + " " + two / 9 + " 4 4 7;");
                x.addKey();
                Checker.draw(x, "fill 7;");
                due("of the parts " + one + " and " + two, x.findBlock(0, 4), 100 * (one % 9) + one / 9);
            }
        }
    }

    /** A part that began at the right edge and went on at the left one, a row lower, would be none. */
    private static void notOverTheEdge() {
        for (int cut = 1; cut <= 3; cut++) {
            for (int top = 0; top <= 7; top++) {
                Counted x = Checker.sized(8, 12);
                Checker.draw(x, "box " + (8 - cut) + " " + top + " " + cut + " 4 7;box 0 " + (top + 1) + " " + (4 - cut)
                        + " 4 7;");
                x.addKey();
                Checker.draw(x, "fill 7;");
                due("over the right edge, " + cut + " columns, row " + top, x.findBlock(0, 0), -9);
                Checker.draw(x, "fill 0;box 0 0 4 4 9;");
                due("no such value", x.findBlock(0, 0), -9);
            }
            Counted x = Checker.sized(4, 8);
            Checker.draw(x, "box 0 " + (8 - cut) + " 4 " + cut + " 7;box 0 0 4 " + (4 - cut) + " 7;");
            x.addKey();
            Checker.draw(x, "fill 7;");
            due("over the lower edge, " + cut + " rows", x.findBlock(0, 0), -9);
            Checker.draw(x, "fill 0;box 0 0 4 " + cut + " 7;");
            // three rows of 7 at the top hold one above zeros, two hold two; the rows at the bottom have nothing below
            due("no zeros below the lower edge, " + cut + " rows", x.findBlock(0, 0), cut == 3 ? -9 : 4 - 2 * cut);
        }
    }

    /** The block is one of the canvas, the part one of the frame. */
    private static void blocksOfTheCanvas() {
        Counted x = Checker.sized(8, 8);
        Checker.draw(x, "box 4 4 4 4 1;box 4 0 4 4 2;box 0 4 4 4 3;");
        x.addKey();
        Checker.draw(x, "shift -4 -4;");
        int[] wanted = {404, 0, 0, 0};
        for (int b = 0; b < 4; b++) {
            due("block " + b, x.findBlock(0, b), wanted[b]);
        }
        x.addKey();
        due("in the newer frame", x.findBlock(1, 0), 0);
        due("in the older frame", x.findBlock(0, 0), 404);
        x.setLost(1, 1);
        due("in the lost frame", x.findBlock(1, 0), -2);
        due("in the lost frame, behind the last block", x.findBlock(1, 4), -1);
        due("in no frame", x.findBlock(2, 0), -1);
        due("in the canvas", x.findBlock(-1, 0), -1);
        x.setCell(0, 9);
        due("nowhere", x.findBlock(0, 0), -9);
    }

    /** "that have the same digest but are different": equal parts are none, nor are parts of other digests. */
    private static void noMatches() {
        for (int width = 4; width <= 12; width += 4) {
            for (int height = 4; height <= 12; height += 4) {
                Counted x = Checker.sized(width, height);
                due("all parts are equal", x.falseMatches(-1), 0);
                Checker.draw(x, "fill 15;");
                x.addKey();
                due("all parts are equal", x.falseMatches(0), 0);
                due("frame 1", x.falseMatches(1), -1);
                due("frame -2", x.falseMatches(-2), -1);
                x.setLost(0, 1);
                due("lost", x.falseMatches(0), -2);
                due("the canvas", x.falseMatches(-1), 0);
            }
        }
    }

    private static void randomMatches() {
        for (int seed = 0; seed < 300; seed++) {
            Random dice = new Random(seed);
            int width = seed % 3 == 0 ? 8 : 12;
            int height = seed % 5 == 0 ? 8 : 12;
            int[] cells = new int[width * height];
            for (int i = 0; i < cells.length; i++) {
                cells[i] = dice.nextInt(seed % 4 == 0 ? 3 : 16);
            }
            int wanted = count(cells, width, height);
            falseOnes += wanted;
            Counted x = Checker.sized(width, height);
            Checker.paint(x, cells);
            due("the canvas of seed " + seed, x.falseMatches(-1), wanted);
            x.addKey();
            Checker.draw(x, "fill 0;");
            due("the frame of seed " + seed, x.falseMatches(0), wanted);
            due("the canvas then", x.falseMatches(-1), 0);
        }
        CHECKER.holds("there were false matches", falseOnes > 50);
        CHECKER.holds("some of them overlap", overlapping > 2);
    }

    /** Unordered pairs at different places, by the digest's definition. */
    private static int count(int[] cells, int width, int height) {
        int found = 0;
        int columns = width - 3;
        int parts = columns * (height - 3);
        for (int p = 0; p < parts; p++) {
            for (int q = 0; q < p; q++) {
                int[] one = part(cells, width, p % columns, p / columns);
                int[] other = part(cells, width, q % columns, q / columns);
                if (digest(one) == digest(other) && !java.util.Arrays.equals(one, other)) {
                    found++;
                    boolean near = Math.abs(p % columns - q % columns) < 4 && Math.abs(p / columns - q / columns) < 4;
                    overlapping += near ? 1 : 0;
                }
            }
        }
        return found;
    }

    private static int[] part(int[] cells, int width, int left, int top) {
        int[] part = new int[16];
        for (int i = 0; i < 16; i++) {
            part[i] = cells[(top + i / 4) * width + left + i % 4];
        }
        return part;
    }

    private static long digest(int[] part) {
        long digest = 7;
        for (int value : part) {
            digest = (digest * 31 + value) % 9973;
        }
        return digest;
    }

    /** Blocks of just two kinds, whose digests are the same: each of one kind is a false match of each of the other. */
    private static void manyMatches() {
        for (int seed = 0; seed < 100; seed++) {
            Random dice = new Random(seed);
            int width = 4 + seed % 3 * 4;
            int height = 4 + seed / 3 % 3 * 4;
            int[] cells = new int[width * height];
            int[] kinds = new int[2];
            for (int block = 0; block < width * height / 16; block++) {
                int kind = dice.nextInt(2);
                kinds[kind]++;
                // 10 * 961 + 12 * 31 - 9 is the modulus
                int last = (block / (width / 4) * 4 + 3) * width + block % (width / 4) * 4 + 1;
                cells[last] = kind == 0 ? 0 : 10;
                cells[last + 1] = kind == 0 ? 0 : 12;
                cells[last + 2] = kind == 0 ? 9 : 0;
            }
            Counted x = Checker.sized(width, height);
            Checker.paint(x, cells);
            String what = "two kinds of blocks, seed " + seed;
            due(what, x.falseMatches(-1), count(cells, width, height));
            CHECKER.holds(what + ", each with each", x.falseMatches(-1) >= kinds[0] * kinds[1]);
            if (width == 4 && height == 8) {
                due(what + ", one pair if they are unlike", x.falseMatches(-1), kinds[0] * kinds[1]);
            }
        }
    }

    /** One part has no pair. */
    private static void oneAlone() {
        for (int seed = 0; seed < 20; seed++) {
            Random dice = new Random(seed);
            int[] cells = new int[16];
            for (int i = 0; i < 16; i++) {
                cells[i] = dice.nextInt(16);
            }
            Counted x = Checker.sized(4, 4);
            Checker.paint(x, cells);
            due("one part alone", x.falseMatches(-1), 0);
        }
    }

    /** Parts that lie in one row or in one column. */
    private static void narrowImages() {
        for (int[] size : new int[][] {{4, 8}, {8, 4}, {4, 12}, {12, 4}}) {
            int found = 0;
            for (int seed = 0; seed < 4000; seed++) {
                Random dice = new Random(seed);
                int[] cells = new int[size[0] * size[1]];
                for (int i = 0; i < cells.length; i++) {
                    cells[i] = dice.nextInt(16);
                }
                int wanted = count(cells, size[0], size[1]);
                if (wanted > 0 || seed < 20) {
                    Counted x = Checker.sized(size[0], size[1]);
                    Checker.paint(x, cells);
                    due(size[0] + " by " + size[1] + ", seed " + seed, x.falseMatches(-1), wanted);
                    found += wanted;
                }
            }
            CHECKER.holds("false matches in " + size[0] + " by " + size[1], found > 0);
        }
    }
}
