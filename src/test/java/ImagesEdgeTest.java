import java.util.Arrays;

/** "Images", sentence by sentence: sizes, cells and their numbers, blocks and their places, digests. */
public final class ImagesEdgeTest {
    private static final Checker CHECKER = new Checker("ImagesEdgeTest");
    private static final int[] LENGTHS = {4, 8, 12};

    public static void main(String[] args) {
        firstSize();
        possibleSizes();
        for (int width : LENGTHS) {
            for (int height : LENGTHS) {
                cellLimits(width, height);
                cellNumbers(width, height);
                blockPlaces(width, height);
                digests(width, height);
                digestLimits(width, height);
            }
        }
        values();
        framesAndCellsGo();
        whatStaysBehindSetSize();
        digestSteps();
        callNumber512();
        CHECKER.finish();
    }

    private static void due(String what, long got, long want) {
        CHECKER.due(what, got, want);
    }

    /** "at first 8 and 8"; "at first all its cells are 0"; "without frames, [..] and an empty text". */
    private static void firstSize() {
        Counted x = new Counted();
        int[] counts = {8, 8, 0, 2, 4, 0, 0, 0, 0, 0};
        for (int what = 0; what < counts.length; what++) {
            due("a new object's count(" + what + ")", x.count(what), counts[what]);
        }
        for (int cell = 0; cell < 64; cell++) {
            due("a new object's cell " + cell, x.cell(cell), 0);
        }
        due("a new object's cell 64", x.cell(64), -1);
        due("a new object's frame 0", x.frame(0, 0), -1);
        due("a new object's draw()", x.draw(), 0);
        due("a new object's saved states, but for the draw()", x.undo(), 0);
        due("a new object's saved states", x.undo(), -2);
    }

    /** "W and H are 4, 8 or 12": both lengths from -2 to 18 in all pairs. */
    private static void possibleSizes() {
        for (int width = -2; width <= 18; width++) {
            for (int height = -2; height <= 18; height++) {
                boolean fine = Arrays.binarySearch(LENGTHS, width) >= 0 && Arrays.binarySearch(LENGTHS, height) >= 0;
                Counted x = Checker.sized(12, 4);
                x.setCell(1, 1);
                x.addKey();
                String what = "setSize(" + width + ", " + height + ")";
                due(what, x.setSize(width, height), fine ? width / 4 * (height / 4) : -1);
                due(what + ", the width", x.count(0), fine ? width : 12);
                due(what + ", the height", x.count(1), fine ? height : 4);
                due(what + ", the frames", x.count(2), fine ? 0 : 1);
                due(what + ", cell 1", x.cell(1), fine ? 0 : 1);
                due(what + ", saved states", x.count(9), fine ? 4 : 3);
            }
        }
    }

    private static void cellLimits(int width, int height) {
        String size = " of " + width + " by " + height;
        int behind = width * height;
        Counted x = Checker.sized(width, height);
        due("the first cell" + size, x.setCell(0, 14), 0);
        due("the last cell" + size, x.setCell(behind - 1, 15), 0);
        due("behind the last cell" + size, x.setCell(behind, 1), -1);
        due("before the first cell" + size, x.setCell(-1, 1), -1);
        due("the first cell" + size, x.cell(0), 14);
        due("the last cell" + size, x.cell(behind - 1), 15);
        due("behind the last cell" + size, x.cell(behind), -1);
        due("before the first cell" + size, x.cell(-1), -1);
        x.addKey();
        due("the first pixel" + size, x.pixel(0, 0), 14);
        due("the last pixel" + size, x.pixel(0, behind - 1), 15);
        due("behind the last pixel" + size, x.pixel(0, behind), -1);
        due("before the first pixel" + size, x.pixel(0, -1), -1);
        due("saved states", x.count(9), 4);
    }

    /** "The cell (x, y) has the number y * W + x; x is counted from the left, y from the top." */
    private static void cellNumbers(int width, int height) {
        int[][] places = {{0, 0}, {width - 1, 0}, {0, height - 1}, {width - 1, height - 1}, {1, 2}, {width - 2, 1}};
        for (int[] place : places) {
            Counted x = Checker.sized(width, height);
            Checker.draw(x, "box " + place[0] + " " + place[1] + " 1 1 9;");
            for (int cell = 0; cell < width * height; cell++) {
                due("cell " + cell + " of " + width + " by " + height + " with (" + place[0] + ", " + place[1] + ") set",
                        x.cell(cell), cell == place[1] * width + place[0] ? 9 : 0);
            }
        }
    }

    /** "block b has its top left corner at x = 4 * (b modulo (W / 4)), y = 4 * (b / (W / 4), rounded down)" */
    private static void blockPlaces(int width, int height) {
        int blocks = width * height / 16;
        for (int cell = 0; cell < width * height; cell++) {
            int own = cell / width / 4 * (width / 4) + cell % width / 4;
            Counted x = Checker.sized(width, height);
            x.addKey();
            x.setCell(cell, 1);
            x.addDelta(0);
            String what = " of " + width + " by " + height + ", cell " + cell + " changed";
            for (int b = 0; b < blocks; b++) {
                due("block " + b + what, x.code(1, b, 0), b == own ? 2 : 0);
                due("block " + b + what + ", in frame 0", x.findBlock(0, b), b == own ? -9 : 0);
            }
            due("behind the last block" + what, x.code(1, blocks, 0), -1);
            due("behind the last block" + what, x.run(1, blocks, 0, 0), -1);
            due("behind the last block" + what, x.findBlock(0, blocks), -1);
            due("before the first block" + what, x.code(1, -1, 0), -1);
            due("before the first block" + what, x.run(1, -1, 0, 0), -1);
            due("before the first block" + what, x.findBlock(0, -1), -1);
            due("keep codes" + what, x.frame(1, 5), blocks - 1);
        }
    }

    private static int[] someCells(int width, int height) {
        int[] cells = new int[width * height];
        for (int i = 0; i < cells.length; i++) {
            cells[i] = (i * i * 7 + i * 5 + i / width) % 16;
        }
        return cells;
    }

    private static long digestOf(int[] cells, int width, int left, int top) {
        long digest = 7;
        for (int row = 0; row < 4; row++) {
            for (int column = 0; column < 4; column++) {
                digest = (digest * 31 + cells[(top + row) * width + left + column]) % 9973;
            }
        }
        return digest;
    }

    /** "it is 7 at first, and for each cell it becomes (digest * 31 + value) modulo 9973", row by row. */
    private static void digests(int width, int height) {
        int[] cells = someCells(width, height);
        Counted x = Checker.sized(width, height);
        Checker.paint(x, cells);
        x.addKey();
        Checker.draw(x, "fill 15;");
        int[] even = new int[width * height];
        Arrays.fill(even, 15);
        for (int top = 0; top <= height - 4; top++) {
            for (int left = 0; left <= width - 4; left++) {
                String place = left + ", " + top + ") of " + width + " by " + height;
                due("digest(0, " + place, x.digest(0, left, top), digestOf(cells, width, left, top));
                due("digest(-1, " + place, x.digest(-1, left, top), digestOf(even, width, 0, 0));
            }
        }
    }

    /** "x: 0 to W - 4", "y: 0 to H - 4" */
    private static void digestLimits(int width, int height) {
        Counted x = Checker.sized(width, height);
        x.addKey();
        String size = " of " + width + " by " + height;
        for (int frame = -1; frame <= 0; frame++) {
            due("the greatest x and y" + size, x.digest(frame, width - 4, height - 4), 1574);
            due("x too great" + size, x.digest(frame, width - 3, 0), -1);
            due("y too great" + size, x.digest(frame, 0, height - 3), -1);
            due("both too great" + size, x.digest(frame, width - 3, height - 3), -1);
            due("x too small" + size, x.digest(frame, -1, 0), -1);
            due("y too small" + size, x.digest(frame, 0, -1), -1);
            due("both too small" + size, x.digest(frame, -1, -1), -1);
            due("x is no y" + size, x.digest(frame, width - 4, 0), 1574);
            due("y is no x" + size, x.digest(frame, 0, height - 4), 1574);
        }
        due("frame 1" + size, x.digest(1, 0, 0), -1);
        due("frame -2" + size, x.digest(-2, 0, 0), -1);
    }

    /** "A cell has a value from 0 to 15." */
    private static void values() {
        Counted x = new Counted();
        int previous = 0;
        for (int value = 0; value <= 15; value++) {
            due("setCell(9, " + value + ")", x.setCell(9, value), previous);
            due("cell(9)", x.cell(9), value);
            previous = value;
        }
        for (int wrong : new int[] {-1, 16, 17, -16, 31, 256, Integer.MIN_VALUE, Integer.MAX_VALUE}) {
            due("setCell(9, " + wrong + ")", x.setCell(9, wrong), -1);
        }
        due("cell(9)", x.cell(9), 15);
        due("its neighbours", x.cell(8) + x.cell(10) + x.cell(1) + x.cell(17), 0);
        due("the same value again", x.setCell(9, 15), 15);
    }

    /** "All frames are removed, and all cells of the canvas become 0", also with the same size and with a greater one. */
    private static void framesAndCellsGo() {
        for (int width : LENGTHS) {
            for (int height : LENGTHS) {
                Counted x = Checker.sized(8, 12);
                Checker.draw(x, "fill 9;");
                x.addKey();
                x.addDelta(0);
                x.setLost(0, 1);
                due("blocks", x.setSize(width, height), width * height / 16);
                due("no frames", x.count(2), 0);
                due("no costs", x.count(6), 0);
                due("none can be decoded", x.count(7), 0);
                due("no greatest seek cost", x.greatestSeek(), -9);
                due("no frame 0", x.frame(0, 0), -1);
                for (int cell = 0; cell < width * height; cell++) {
                    due("cell " + cell, x.cell(cell), 0);
                }
                due("the first frame then", x.addKey(), 2 + 4 * (width * height / 16));
                due("it is not lost", x.count(7), 1);
            }
        }
        Counted x = Checker.sized(12, 12);
        Checker.draw(x, "fill 9;");
        x.setSize(4, 4);
        Checker.draw(x, "fill 5;");
        x.setSize(12, 12);
        due("small and great again: even zeros cost 4 a block", x.addKey(), 2 + 9 * 4);
        due("and they are zeros", x.run(0, 8, 0, 1), 0);
    }

    private static void whatStaysBehindSetSize() {
        Counted x = new Counted();
        x.setLimits(4, 9, 8);
        Checker.type(x, "fill 3;");
        x.setSize(4, 12);
        due("the range stays", x.count(3), 4);
        due("the depth limit stays", x.count(4), 9);
        due("the rate stays", x.count(5), 8);
        due("the text stays", x.count(8), 7);
        due("and can be drawn", x.draw(), 1);
        due("on the new canvas", x.cell(47), 3);
    }

    /** Each of the sixteen cells counts with its own power of 31, and the modulus is 9973. */
    private static void digestSteps() {
        for (int cell = 0; cell < 16; cell++) {
            Counted x = Checker.sized(4, 4);
            for (int value = 1; value <= 15; value += 7) {
                x.setCell(cell, value);
                long power = 1;
                for (int later = cell + 1; later < 16; later++) {
                    power = power * 31 % 9973;
                }
                due("digest with cell " + cell + " of " + value, x.digest(-1, 0, 0), (1574 + power * value) % 9973);
            }
        }
    }

    /** "An object is used for at most 512 calls": the last of them answers like the others. */
    private static void callNumber512() {
        Counted x = Checker.sized(4, 4);
        x.addKey();
        while (x.left() > 5) {
            x.appendCharacter(' ');
            x.setCell(0, x.left() % 16);
            x.clearText();
            x.undo();
        }
        while (x.left() > 2) {
            x.cell(0);
        }
        due("the call before the last", x.addDelta(0), 3);
        due("the last of 512 calls", x.frame(1, 2), 9);
        due("no call is left", x.left(), 0);
    }
}
