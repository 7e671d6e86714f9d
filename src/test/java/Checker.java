import java.util.ArrayList;
import java.util.IdentityHashMap;
import java.util.List;
import java.util.Map;
import java.util.function.Supplier;
import java.util.function.ToIntFunction;

/** What the tests share: counting of right and wrong answers, typing of texts, and asking for all there is. */
final class Checker {
    private final String name;
    private final Map<Supplier<Counted>, String> known = new IdentityHashMap<>();
    private int passed = 0;
    private int failed = 0;

    Checker(String name) {
        this.name = name;
    }

    void due(String what, long got, long want) {
        if (got == want) {
            passed++;
        } else {
            failed++;
            System.out.println(name + ": " + what + " answered " + got + ", due is " + want);
        }
    }

    void holds(String what, boolean condition) {
        due(what, condition ? 1 : 0, 1);
    }

    /** The call answers what is due, and neither an answer nor the text nor a saved state is another then. */
    void refuses(String what, Supplier<Counted> maker, ToIntFunction<Counted> call, int want) {
        due(what, call.applyAsInt(maker.get()), want);
        String before = known.computeIfAbsent(maker, Checker::everything);
        holds(what + " changes nothing", before.equals(everything(after(maker, call))));
    }

    /** Ends the program with the closing line and the exit code. */
    void finish() {
        System.out.println(name + ": " + passed + " passed, " + failed + " failed");
        if (failed > 0 || passed == 0) {
            System.exit(1);
        }
    }

    static void type(Counted coder, String text) {
        for (int i = 0; i < text.length(); i++) {
            coder.appendCharacter(text.charAt(i));
        }
    }

    /** Makes the text just this one and draws it. */
    static int draw(Counted coder, String text) {
        coder.clearText();
        type(coder, text);
        return coder.draw();
    }

    /** An object of this size whose canvas is given row by row, a hexadecimal digit a cell. */
    static Counted sized(int width, int height, String... rows) {
        Counted coder = new Counted();
        coder.setSize(width, height);
        paint(coder, rows);
        return coder;
    }

    static void paint(Counted coder, String... rows) {
        int cell = 0;
        for (String row : rows) {
            for (int i = 0; i < row.length(); i++) {
                coder.setCell(cell, Character.digit(row.charAt(i), 16));
                cell++;
            }
        }
    }

    /** Sets the cells of the canvas in the order of their numbers. */
    static void paint(Counted coder, int[] cells) {
        for (int cell = 0; cell < cells.length; cell++) {
            coder.setCell(cell, cells[cell]);
        }
    }

    /** The same object, with one call more. */
    static Supplier<Counted> after(Supplier<Counted> maker, ToIntFunction<Counted> call) {
        return () -> {
            Counted x = maker.get();
            call.applyAsInt(x);
            return x;
        };
    }

    /** All that can be asked but for the number of saved states; an object is made anew when its calls are used up. */
    static String allAnswers(Supplier<Counted> maker) {
        Counted x = maker.get();
        StringBuilder all = new StringBuilder();
        for (ToIntFunction<Counted> question : questions(x.count(0), x.count(1), x.count(2))) {
            if (x.left() == 0) {
                x = maker.get();
            }
            all.append(question.applyAsInt(x)).append(' ');
        }
        return all.toString();
    }

    /** The answers now and in each saved state, and what comes of the text. */
    static String everything(Supplier<Counted> maker) {
        StringBuilder all = new StringBuilder();
        Supplier<Counted> state = maker;
        for (int saved = maker.get().count(9); saved >= 0; saved--) {
            all.append(saved).append(": ").append(allAnswers(state)).append('\n');
            state = after(state, Counted::undo);
        }
        Counted drawn = after(maker, Counted::draw).get();
        all.append(drawn.count(8)).append(" cells");
        for (int cell = 0; cell < 144 && drawn.left() > 0; cell++) {
            all.append(' ').append(drawn.cell(cell));
        }
        return all.toString();
    }

    private static List<ToIntFunction<Counted>> questions(int width, int height, int frames) {
        List<ToIntFunction<Counted>> all = new ArrayList<>();
        for (int what = 0; what < 9; what++) {
            int w = what;
            all.add(x -> x.count(w));
        }
        for (int cell = 0; cell < width * height; cell++) {
            int c = cell;
            all.add(x -> x.cell(c));
        }
        for (int f = 0; f < frames; f++) {
            aboutRecord(f, width * height / 16, all);
            aboutImage(f, width, height, all);
        }
        all.add(Counted::greatestSeek);
        all.add(Counted::planCost);
        all.add(Counted::planKeys);
        all.add(x -> x.costWith(-1));
        all.add(x -> x.digest(-1, width - 4, height - 4));
        return all;
    }

    private static void aboutRecord(int f, int blocks, List<ToIntFunction<Counted>> all) {
        for (int what = 0; what < 9; what++) {
            int w = what;
            all.add(x -> x.frame(f, w));
        }
        for (int block = 0; block < blocks; block++) {
            int b = block;
            for (int part = 0; part < 4; part++) {
                int p = part;
                all.add(x -> x.code(f, b, p));
            }
            for (int run = 0; run < 16; run++) {
                int r = run;
                all.add(x -> x.run(f, b, r, 0));
                all.add(x -> x.run(f, b, r, 1));
            }
        }
    }

    private static void aboutImage(int f, int width, int height, List<ToIntFunction<Counted>> all) {
        for (int cell = 0; cell < width * height; cell++) {
            int c = cell;
            all.add(x -> x.pixel(f, c));
        }
        for (int block = 0; block < width * height / 16; block++) {
            int b = block;
            all.add(x -> x.findBlock(f, b));
        }
        all.add(x -> x.costWith(f));
        all.add(x -> x.dependents(f));
        all.add(x -> x.patch(f));
        all.add(x -> x.difference(f, -1));
        all.add(x -> x.falseMatches(f));
        all.add(x -> x.digest(f, width - 4, height - 4));
    }
}
