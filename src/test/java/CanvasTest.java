/** Promises 1 to 6 and 8: the canvas, the text as it is built, and digests. */
public final class CanvasTest {
    private static final Checker CHECKER = new Checker("CanvasTest");

    public static void main(String[] args) {
        newObject();
        sizes();
        cells();
        text();
        digests();
        digestErrors();
        CHECKER.finish();
    }

    private static void due(String what, long got, long want) {
        CHECKER.due(what, got, want);
    }

    private static void newObject() {
        Counted x = new Counted();
        int[] counts = {8, 8, 0, 2, 4, 0, 0, 0, 0, 0};
        for (int what = 0; what < counts.length; what++) {
            due("promise 1: count(" + what + ")", x.count(what), counts[what]);
        }
        for (int cell = 0; cell < 64; cell++) {
            due("promise 1: cell(" + cell + ")", x.cell(cell), 0);
        }
        due("promise 1: cell(64)", x.cell(64), -1);
        due("promise 1: undo()", x.undo(), -2);
        due("promise 1: planKeys()", x.planKeys(), -9);
    }

    private static void sizes() {
        int[] lengths = {4, 8, 12};
        for (int width : lengths) {
            for (int height : lengths) {
                Counted x = new Counted();
                x.setCell(0, 5);
                x.addKey();
                due("promise 2: setSize", x.setSize(width, height), width * height / 16);
                due("promise 2: width", x.count(0), width);
                due("promise 2: height", x.count(1), height);
                due("promise 2: frames", x.count(2), 0);
                due("promise 2: cell(0)", x.cell(0), 0);
                due("promise 2: last cell", x.cell(width * height - 1), 0);
                due("promise 2: behind the last cell", x.cell(width * height), -1);
            }
        }
        wrongSizes();
    }

    private static void wrongSizes() {
        Counted x = new Counted();
        x.setCell(3, 7);
        x.addKey();
        int[] wrong = {Integer.MIN_VALUE, -4, 0, 1, 3, 5, 7, 9, 11, 13, 16, Integer.MAX_VALUE};
        for (int length : wrong) {
            due("promise 2: setSize(" + length + ", 8)", x.setSize(length, 8), -1);
            due("promise 2: setSize(8, " + length + ")", x.setSize(8, length), -1);
        }
        due("promise 2: nothing has changed", x.count(2), 1);
        due("promise 2: nothing has changed", x.cell(3), 7);
        due("promise 2: nothing is saved", x.count(9), 2);
        // the size stays, and the limits too
        x.setLimits(1, 2, 3);
        due("promise 2: setSize(8, 8)", x.setSize(8, 8), 4);
        due("promise 2: the same size removes frames too", x.count(2), 0);
        due("promise 2: the same size clears too", x.cell(3), 0);
        due("promise 2: the range stays", x.count(3), 1);
        due("promise 2: the depth limit stays", x.count(4), 2);
        due("promise 2: the rate stays", x.count(5), 3);
        Checker.type(x, "fill");
        x.setSize(4, 4);
        due("promise 2: the text stays", x.count(8), 4);
    }

    private static void cells() {
        Counted x = new Counted();
        x.setSize(4, 8);
        due("promise 3: setCell(31, 15)", x.setCell(31, 15), 0);
        due("promise 3: setCell(31, 0)", x.setCell(31, 0), 15);
        due("promise 3: setCell(0, 9)", x.setCell(0, 9), 0);
        due("promise 4: cell(0)", x.cell(0), 9);
        due("promise 4: cell(31)", x.cell(31), 0);
        due("promise 3: saved", x.count(9), 4);
        due("promise 3: setCell(32, 0)", x.setCell(32, 0), -1);
        due("promise 3: setCell(-1, 0)", x.setCell(-1, 0), -1);
        due("promise 3: setCell(0, 16)", x.setCell(0, 16), -1);
        due("promise 3: setCell(0, -1)", x.setCell(0, -1), -1);
        due("promise 3: setCell far out", x.setCell(Integer.MAX_VALUE, Integer.MIN_VALUE), -1);
        due("promise 3: nothing has changed", x.cell(0), 9);
        due("promise 3: nothing is saved", x.count(9), 4);
        due("promise 4: cell(-1)", x.cell(-1), -1);
        due("promise 4: cell(32)", x.cell(32), -1);
        due("promise 4: cell far out", x.cell(Integer.MIN_VALUE), -1);
    }

    private static void text() {
        Counted x = new Counted();
        due("promise 5: appendCharacter(-1)", x.appendCharacter(-1), -1);
        due("promise 5: appendCharacter(256)", x.appendCharacter(256), -1);
        due("promise 5: length", x.count(8), 0);
        due("promise 5: appendCharacter(0)", x.appendCharacter(0), 1);
        due("promise 5: appendCharacter(255)", x.appendCharacter(255), 2);
        for (int length = 3; length <= 160; length++) {
            due("promise 5: appendCharacter(32)", x.appendCharacter(32), length);
        }
        due("promise 5: full", x.appendCharacter(32), -3);
        due("promise 5: full and wrong", x.appendCharacter(256), -1);
        due("promise 5: length", x.count(8), 160);
        due("promise 6: clearText()", x.clearText(), 160);
        due("promise 6: length", x.count(8), 0);
        due("promise 6: clearText() again", x.clearText(), 0);
        due("promise 5: after clearing", x.appendCharacter(32), 1);
        due("promise 6: nothing is saved", x.count(9), 0);
    }

    /** The digest by its definition, over a canvas of 12 by 8 cells. */
    private static void digests() {
        Counted x = new Counted();
        x.setSize(12, 8);
        int[] values = new int[96];
        for (int i = 0; i < 96; i++) {
            values[i] = (i * i + 3 * i + i / 12) % 16;
            x.setCell(i, values[i]);
        }
        x.addKey();
        x.setCell(0, (values[0] + 1) % 16);
        for (int top = 0; top <= 4; top++) {
            for (int left = 0; left <= 8; left++) {
                long digest = 7;
                for (int i = 0; i < 16; i++) {
                    digest = (digest * 31 + values[(top + i / 4) * 12 + left + i % 4]) % 9973;
                }
                due("promise 8: digest(0, ..)", x.digest(0, left, top), digest);
                boolean same = left > 0 || top > 0;
                CHECKER.holds("promise 8: digest(-1, ..)", same == (x.digest(-1, left, top) == digest));
            }
        }
        due("promise 8: of zeros", new Counted().digest(-1, 0, 0), 1574);
    }

    private static void digestErrors() {
        Counted x = new Counted();
        x.setSize(12, 8);
        x.addKey();
        x.addDelta(0);
        due("promise 8: x too great", x.digest(0, 9, 0), -1);
        due("promise 8: y too great", x.digest(0, 0, 5), -1);
        due("promise 8: x too small", x.digest(-1, -1, 0), -1);
        due("promise 8: y too small", x.digest(-1, 0, -1), -1);
        due("promise 8: no such frame", x.digest(2, 0, 0), -1);
        due("promise 8: no such frame", x.digest(-2, 0, 0), -1);
        due("promise 8: the corner", x.digest(1, 8, 4), 1574);
        x.setLost(0, 1);
        due("promise 8: lost", x.digest(0, 0, 0), -2);
        due("promise 8: behind a lost one", x.digest(1, 0, 0), -2);
        due("promise 8: lost, and x too great", x.digest(1, 9, 0), -1);
        due("promise 8: the canvas is never lost", x.digest(-1, 0, 0), 1574);
    }
}
