import java.util.Random;

/** "Text", sentence by sentence: what each command does with each argument, on images of all sizes. */
public final class CommandsEdgeTest {
    private static final Checker CHECKER = new Checker("CommandsEdgeTest");
    private static final int[] LENGTHS = {4, 8, 12};

    public static void main(String[] args) {
        for (int width : LENGTHS) {
            for (int height : LENGTHS) {
                fills(width, height);
                boxes(width, height);
                shifts(width, height);
            }
        }
        swaps();
        swapsOnce();
        frames();
        inOrder();
        fromTheCanvasAsItIs();
        framesStay();
        CHECKER.finish();
    }

    private static void due(String what, long got, long want) {
        CHECKER.due(what, got, want);
    }

    private static int[] someCells(int count, int seed) {
        Random dice = new Random(seed);
        int[] cells = new int[count];
        for (int i = 0; i < count; i++) {
            cells[i] = 1 + dice.nextInt(15);
        }
        return cells;
    }

    private static Counted painted(int width, int height, int[] cells) {
        Counted x = Checker.sized(width, height);
        Checker.paint(x, cells);
        return x;
    }

    private static void canvas(String what, Counted x, int[] wanted) {
        int wrong = 0;
        for (int i = 0; i < wanted.length; i++) {
            wrong += x.cell(i) == wanted[i] ? 0 : 1;
        }
        due("wrong cells after " + what, wrong, 0);
        due("behind the last cell after " + what, x.cell(wanted.length), -1);
    }

    /** "all cells get the value" */
    private static void fills(int width, int height) {
        for (int value = 0; value <= 15; value++) {
            Counted x = painted(width, height, someCells(width * height, value));
            due("fill " + value, Checker.draw(x, "fill " + value + ";"), 1);
            int[] wanted = new int[width * height];
            java.util.Arrays.fill(wanted, value);
            canvas("fill " + value + " of " + width + " by " + height, x, wanted);
        }
    }

    /** "the cells from X to X + W - 1 and from Y to Y + H - 1 get the value; those that are not in the image are left out" */
    private static void boxes(int width, int height) {
        for (int n = 0; n <= 12; n++) {
            for (int k = 0; k <= 12; k++) {
                box(width, height, new int[] {n, (n + k) % 3, k, 2, 0});
                box(width, height, new int[] {(n + k) % 3, n, 2, k, 0});
                box(width, height, new int[] {n, k, 12 - n % 5, 12 - k % 5, 15});
            }
        }
    }

    private static void box(int width, int height, int[] n) {
        int[] cells = someCells(width * height, 3);
        Counted x = painted(width, height, cells);
        String text = "box " + n[0] + " " + n[1] + " " + n[2] + " " + n[3] + " " + n[4] + ";";
        for (int row = n[1]; row <= n[1] + n[3] - 1; row++) {
            for (int column = n[0]; column <= n[0] + n[2] - 1; column++) {
                if (row < height && column < width) {
                    cells[row * width + column] = n[4];
                }
            }
        }
        due(text, Checker.draw(x, text), 1);
        canvas(text + " of " + width + " by " + height, x, cells);
    }

    /** "shifted by DX to the right and DY down; cells that come from outside get the value 0" */
    private static void shifts(int width, int height) {
        int step = width + height > 16 ? 3 : 1;
        for (int dx = -12; dx <= 12; dx += step) {
            for (int dy = -12; dy <= 12; dy += step) {
                shift(width, height, dx, dy);
            }
        }
        for (int way = 1; way <= 12; way++) {
            shift(width, height, way, 0);
            shift(width, height, -way, 0);
            shift(width, height, 0, way);
            shift(width, height, 0, -way);
        }
    }

    private static void shift(int width, int height, int dx, int dy) {
        int[] cells = someCells(width * height, 5);
        Counted x = Checker.sized(width, height);
        // what lies outside is 0 whatever the cells have been before
        Checker.draw(x, "swap 0 9;");
        Checker.paint(x, cells);
        int[] wanted = new int[cells.length];
        for (int i = 0; i < cells.length; i++) {
            int toX = i % width + dx;
            int toY = i / width + dy;
            if (toX >= 0 && toX < width && toY >= 0 && toY < height) {
                wanted[toY * width + toX] = cells[i];
            }
        }
        String text = "shift " + dx + " " + dy + ";";
        due(text, Checker.draw(x, text), 1);
        canvas(text + " of " + width + " by " + height, x, wanted);
    }

    /** "the cells with the values A and B exchange them": all pairs of values, over an image that has them all. */
    private static void swaps() {
        for (int a = 0; a <= 15; a++) {
            for (int b = 0; b <= 15; b++) {
                Counted x = Checker.sized(4, 4);
                int[] cells = new int[16];
                for (int i = 0; i < 16; i++) {
                    cells[i] = i * 3 % 16;
                }
                Checker.paint(x, cells);
                for (int i = 0; i < 16; i++) {
                    cells[i] = cells[i] == a ? b : cells[i] == b ? a : cells[i];
                }
                due("swap", Checker.draw(x, "swap " + a + " " + b + ";"), 1);
                canvas("swap of " + a + " and " + b, x, cells);
            }
        }
    }

    /** Values that no cell has, values that one side has, and what lay outside when the image was greater. */
    private static void swapsOnce() {
        Counted x = Checker.sized(4, 4, "1122", "1122");
        due("swap of values that are not there", Checker.draw(x, "swap 7 8;"), 1);
        canvas("a swap of nothing", x, new int[] {1, 1, 2, 2, 1, 1, 2, 2, 0, 0, 0, 0, 0, 0, 0, 0});
        due("swap of one that is not there", Checker.draw(x, "swap 2 9;"), 1);
        canvas("a swap of 2 alone", x, new int[] {1, 1, 9, 9, 1, 1, 9, 9, 0, 0, 0, 0, 0, 0, 0, 0});
        due("swap of zeros", Checker.draw(x, "swap 0 1;"), 1);
        canvas("a swap of zeros", x, new int[] {0, 0, 9, 9, 0, 0, 9, 9, 1, 1, 1, 1, 1, 1, 1, 1});
        due("swap and back", Checker.draw(x, "swap 0 9;swap 9 0;"), 2);
        canvas("a swap and back", x, new int[] {0, 0, 9, 9, 0, 0, 9, 9, 1, 1, 1, 1, 1, 1, 1, 1});
        due("swap, then shift", Checker.draw(x, "fill 0;swap 0 5;shift 1 1;"), 3);
        canvas("a shift after a swap", x, new int[] {0, 0, 0, 0, 0, 5, 5, 5, 0, 5, 5, 5, 0, 5, 5, 5});
        x.addKey();
        due("swap of zeros, fives and what is outside", Checker.draw(x, "swap 5 7;swap 0 5;"), 2);
        due("the 16 cells alone are unlike", x.difference(0, -1), 16);
        x.setSize(8, 4);
        due("the canvas of a new size is zeros", x.costWith(-1), 2 + 4 + 4);
    }

    /** "the image of frame F" */
    private static void frames() {
        Counted x = Checker.sized(8, 4);
        int[][] images = new int[4][];
        for (int f = 0; f < 4; f++) {
            images[f] = someCells(32, 40 + f);
            Checker.paint(x, images[f]);
            if (f % 2 == 0) {
                x.addKey();
            } else {
                x.addDelta(f - 1);
            }
        }
        for (int f = 0; f < 4; f++) {
            due("frame " + f, Checker.draw(x, "fill 3;frame " + f + ";"), 2);
            canvas("frame " + f, x, images[f]);
        }
    }

    private static void inOrder() {
        Counted x = Checker.sized(4, 4);
        due("six commands", Checker.draw(x, "fill 1;box 0 0 2 2 3;swap 1 3;shift 1 0;fill 4;box 3 3 1 1 5;"), 6);
        canvas("six commands", x, new int[] {4, 4, 4, 4, 4, 4, 4, 4, 4, 4, 4, 4, 4, 4, 4, 5});
        due("shift twice", Checker.draw(x, "shift -1 0;shift 1 0;"), 2);
        canvas("shift twice", x, new int[] {0, 4, 4, 4, 0, 4, 4, 4, 0, 4, 4, 4, 0, 4, 4, 5});
        due("boxes over one another", Checker.draw(x, "box 0 0 4 4 1;box 1 1 2 2 2;box 1 1 1 1 3;"), 3);
        canvas("boxes over one another", x, new int[] {1, 1, 1, 1, 1, 3, 2, 1, 1, 2, 2, 1, 1, 1, 1, 1});
        due("a chain of swaps", Checker.draw(x, "swap 1 2;swap 2 3;swap 3 1;"), 3);
        canvas("a chain of swaps", x, new int[] {1, 1, 1, 1, 1, 2, 3, 1, 1, 3, 3, 1, 1, 1, 1, 1});
    }

    /** "beginning with the canvas as it is" */
    private static void fromTheCanvasAsItIs() {
        Counted x = Checker.sized(4, 4, "1234", "5678");
        x.addKey();
        x.setCell(15, 9);
        due("a box", Checker.draw(x, "box 0 0 1 1 7;"), 1);
        canvas("a box", x, new int[] {7, 2, 3, 4, 5, 6, 7, 8, 0, 0, 0, 0, 0, 0, 0, 9});
        due("a frame over it", Checker.draw(x, "frame 0;"), 1);
        canvas("a frame over it", x, new int[] {1, 2, 3, 4, 5, 6, 7, 8, 0, 0, 0, 0, 0, 0, 0, 0});
    }

    /** A frame that was drawn is not changed by what is drawn over it. */
    private static void framesStay() {
        Counted x = Checker.sized(4, 4, "1234");
        x.addKey();
        due("over the frame", Checker.draw(x, "frame 0;fill 9;swap 9 8;"), 3);
        x.setCell(0, 7);
        due("its first pixel", x.pixel(0, 0), 1);
        due("its last pixel", x.pixel(0, 15), 0);
        due("the canvas", x.cell(1), 8);
    }
}
