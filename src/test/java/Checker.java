/** What the tests share: counting of right and wrong answers, and typing of texts. */
final class Checker {
    private final String name;
    private int passed = 0;
    private int failed = 0;

    Checker(String name) {
        this.name = name;
    }

    void due(String what, long got, long want) {
        if (got == want) {
            passed++;
        } else {
            failed++;
            System.out.println(name + ": " + what + " answered " + got + ", due is " + want);
        }
    }

    void holds(String what, boolean condition) {
        due(what, condition ? 1 : 0, 1);
    }

    /** Ends the program with the closing line and the exit code. */
    void finish() {
        System.out.println(name + ": " + passed + " passed, " + failed + " failed");
        if (failed > 0 || passed == 0) {
            System.exit(1);
        }
    }

    static void type(FrameDeltas coder, String text) {
        for (int i = 0; i < text.length(); i++) {
            coder.appendCharacter(text.charAt(i));
        }
    }

    /** Makes the text just this one and draws it. */
    static int draw(FrameDeltas coder, String text) {
        coder.clearText();
        type(coder, text);
        return coder.draw();
    }

    /** An object of this size whose canvas is given row by row, a hexadecimal digit a cell. */
    static FrameDeltas sized(int width, int height, String... rows) {
        FrameDeltas coder = new FrameDeltas();
        coder.setSize(width, height);
        paint(coder, rows);
        return coder;
    }

    static void paint(FrameDeltas coder, String... rows) {
        int cell = 0;
        for (String row : rows) {
            for (int i = 0; i < row.length(); i++) {
                coder.setCell(cell, Character.digit(row.charAt(i), 16));
                cell++;
            }
        }
    }

    /** All that can be asked of an object without changing it, as one text. */
    static String allAnswers(FrameDeltas x) {
        StringBuilder all = new StringBuilder();
        int frames = x.count(2);
        int cells = x.count(0) * x.count(1);
        int blocks = cells / 16;
        for (int what = 0; what < 10; what++) {
            all.append(x.count(what)).append(' ');
        }
        for (int cell = 0; cell < cells; cell++) {
            all.append(x.cell(cell)).append(' ');
        }
        for (int f = 0; f < frames; f++) {
            frameAnswers(x, f, blocks, cells, all);
        }
        all.append(x.greatestSeek()).append(' ').append(x.planCost()).append(' ').append(x.planKeys());
        return all.toString();
    }

    private static void frameAnswers(FrameDeltas x, int f, int blocks, int cells, StringBuilder all) {
        all.append("\nframe ").append(f).append(": ");
        for (int what = 0; what < 9; what++) {
            all.append(x.frame(f, what)).append(' ');
        }
        for (int b = 0; b < blocks; b++) {
            for (int part = 0; part < 4; part++) {
                all.append(x.code(f, b, part)).append(' ');
            }
            for (int run = 0; run < 16; run++) {
                all.append(x.run(f, b, run, 0)).append('/').append(x.run(f, b, run, 1)).append(' ');
            }
        }
        for (int cell = 0; cell < cells; cell++) {
            all.append(x.pixel(f, cell)).append(' ');
        }
        all.append(x.costWith(f)).append(' ').append(x.dependents(f)).append(' ').append(x.patch(f));
    }
}
