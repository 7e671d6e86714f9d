import java.util.function.Supplier;

/** Promise 30: undo, and which calls save a state. */
public final class UndoTest {
    private static final Checker CHECKER = new Checker("UndoTest");

    public static void main(String[] args) {
        none();
        everyCall();
        sixStates();
        overAndOver();
        textStays();
        othersSaveNothing();
        CHECKER.finish();
    }

    private static void due(String what, long got, long want) {
        CHECKER.due("promise 30: " + what, got, want);
    }

    private static void none() {
        Counted x = new Counted();
        due("none", x.undo(), -2);
        x.setCell(0, 1);
        due("one", x.undo(), 0);
        due("the cell", x.cell(0), 0);
        due("none left", x.undo(), -2);
    }

    /** A sequence with a chain, a lost record and limits of its own. */
    private static Counted prepared() {
        Counted x = Checker.sized(8, 4, "12345678", "12345678", "9abcdef0", "0fedcba9");
        x.setLimits(3, 5, 2);
        x.addKey();
        Checker.draw(x, "shift 1 0;");
        x.addDelta(0);
        x.setCell(3, 3);
        x.addDelta(1);
        x.addKey();
        x.setLost(1, 1);
        return x;
    }

    private static int call(Counted x, int number) {
        switch (number) {
            case 0:
                return x.setSize(12, 12);
            case 1:
                return x.setCell(5, 9);
            case 2:
                Checker.type(x, "fill 9;");
                return x.draw();
            case 3:
                return x.addKey();
            case 4:
                return x.addDelta(0);
            case 5:
                return x.addChosen();
            case 6:
                return x.removeLast();
            case 7:
                return x.recode();
            case 8:
                return x.setLimits(1, 1, 1);
            case 9:
                return x.setLost(1, 0);
            case 10:
                return x.setLost(0, 1);
            case 11:
                return x.setLimits(3, 5, 2);
            case 12:
                return x.setCell(0, x.cell(0));
            default:
                x.clearText();
                return x.draw();
        }
    }

    private static void everyCall() {
        Supplier<Counted> before = UndoTest::prepared;
        String answers = Checker.allAnswers(before);
        due("six are saved", prepared().count(9), 6);
        for (int number = 0; number <= 13; number++) {
            int n = number;
            CHECKER.holds("call " + n + " succeeds", call(prepared(), n) >= 0);
            Supplier<Counted> after = Checker.after(before, x -> call(x, n));
            due("six are saved still", after.get().count(9), 6);
            CHECKER.holds("call " + n + " changes something", n >= 11 || !answers.equals(Checker.allAnswers(after)));
            due("undo of call " + n, after.get().undo(), 5);
            Supplier<Counted> back = Checker.after(after, Counted::undo);
            CHECKER.holds("undo of call " + n + " restores all", answers.equals(Checker.allAnswers(back)));
            due("five are saved", back.get().count(9), 5);
            due("call " + n + " saves one state", Checker.after(back, x -> call(x, n)).get().count(9), 6);
        }
    }

    private static void sixStates() {
        Counted x = new Counted();
        for (int value = 1; value <= 8; value++) {
            x.setCell(0, value);
            due("saved", x.count(9), Math.min(value, 6));
        }
        for (int left = 5; left >= 0; left--) {
            due("undo()", x.undo(), left);
            due("the cell", x.cell(0), left + 2);
        }
        due("the two oldest are discarded", x.undo(), -2);
        due("the cell stays", x.cell(0), 2);
    }

    private static void overAndOver() {
        Counted x = new Counted();
        for (int round = 0; round < 20; round++) {
            int first = x.cell(1);
            x.setCell(1, round % 16);
            x.setCell(1, (round + 1) % 16);
            x.setCell(1, (round + 2) % 16);
            x.undo();
            due("twice back", x.undo() >= 0 ? x.cell(1) : -1, round % 16);
            x.setCell(2, round % 16);
            x.undo();
            x.undo();
            due("back", x.cell(1), first);
            x.setCell(1, (first + 5) % 16);
        }
        Counted y = Checker.sized(4, 4);
        y.addKey();
        y.addKey();
        y.removeLast();
        y.setCell(0, 1);
        y.addKey();
        due("a frame over a removed one", y.pixel(1, 0), 1);
        y.undo();
        y.undo();
        y.undo();
        due("the removed one is back", y.pixel(1, 0), 0);
        due("the frames", y.count(2), 2);
    }

    private static void textStays() {
        Counted x = new Counted();
        Checker.type(x, "fill 3;");
        x.draw();
        Checker.type(x, "swap");
        x.undo();
        due("the text is no part of the state", x.count(8), 4);
        due("the canvas is", x.cell(0), 0);
        x.setSize(4, 4);
        x.clearText();
        x.undo();
        due("the text stays empty", x.count(8), 0);
        due("the size is back", x.count(0), 8);
    }

    private static void othersSaveNothing() {
        Counted x = prepared();
        x.undo();
        int saved = x.count(9);
        x.appendCharacter(102);
        x.draw();
        x.clearText();
        x.cell(0);
        x.digest(-1, 0, 0);
        x.frame(0, 0);
        x.code(0, 0, 0);
        x.run(0, 0, 0, 0);
        x.pixel(0, 0);
        x.costWith(0);
        x.difference(0, 1);
        x.findBlock(0, 0);
        x.falseMatches(-1);
        x.greatestSeek();
        x.dependents(0);
        x.patch(0);
        x.planCost();
        x.planKeys();
        due("questions and the text save nothing", x.count(9), saved);
        due("the text is left", x.count(8), 0);
    }
}
