/** Promises 9 to 11, 16 to 18 and 21: which code a block gets, what it costs, which reference is chosen. */
public final class CodingTest {
    private static final Checker CHECKER = new Checker("CodingTest");

    public static void main(String[] args) {
        keyFrames();
        keepAndMove();
        orderOfMoves();
        movesAtTheEdge();
        rangeOfMoves();
        deltaAndRaw();
        runs();
        chosenReference();
        chosenByDepth();
        chosenByNumber();
        chosenWithLimits();
        CHECKER.finish();
    }

    private static void due(String what, long got, long want) {
        CHECKER.due(what, got, want);
    }

    private static void code(String what, Counted x, int frame, int block, int... parts) {
        for (int part = 0; part < 4; part++) {
            due("promise 17: " + what + ", part " + part, x.code(frame, block, part), parts[part]);
        }
    }

    private static void keyFrames() {
        Counted x = Checker.sized(8, 4, "00001200", "00001200", "00001200", "00001200");
        due("promise 21: costWith(-1)", x.costWith(-1), 2 + 4 + 2 + 2 * 12);
        due("promise 9: addKey()", x.addKey(), 32);
        due("promise 9: the same again is raw too", x.addKey(), 32);
        due("promise 16: no reference", x.frame(1, 0), -9);
        due("promise 16: raw codes", x.frame(1, 8), 2);
        due("promise 16: keep codes", x.frame(1, 5), 0);
        code("one run", x, 1, 0, 3, -9, -9, 1);
        code("twelve runs", x, 1, 1, 3, -9, -9, 12);
        due("promise 18: length", x.run(1, 0, 0, 0), 16);
        due("promise 18: value", x.run(1, 0, 0, 1), 0);
        due("promise 18: behind the last run", x.run(1, 0, 1, 0), -9);
        for (int row = 0; row < 4; row++) {
            due("promise 18: value 1", x.run(1, 1, 3 * row, 1), 1);
            due("promise 18: value 2", x.run(1, 1, 3 * row + 1, 1), 2);
            due("promise 18: value 0", x.run(1, 1, 3 * row + 2, 1), 0);
            due("promise 18: length of zeros", x.run(1, 1, 3 * row + 2, 0), 2);
        }
        due("promise 18: behind the last run", x.run(1, 1, 12, 1), -9);
    }

    private static void keepAndMove() {
        Counted x = Checker.sized(8, 4, "12345678", "9abcdef0", "12345678", "9abcdef0");
        x.addKey();
        due("promise 10: all kept", x.addDelta(0), 2 + 1 + 1);
        code("keep", x, 1, 0, 0, -9, -9, -9);
        due("promise 18: a keep has no runs", x.run(1, 0, 0, 0), -9);
        due("promise 16: keep codes", x.frame(1, 5), 2);
        Checker.draw(x, "shift 1 0;");
        // the left block becomes 0123 over 09ab: its differences are 15, but for two of 7
        due("promise 21: costWith(1)", x.costWith(1), 2 + 2 + 2 * 5 + 3);
        due("promise 10: one moved", x.addDelta(1), 17);
        code("move", x, 2, 1, 1, -1, 0, -9);
        due("promise 18: a move has no runs", x.run(2, 1, 0, 0), -9);
        due("promise 16: move codes", x.frame(2, 6), 1);
        due("promise 16: reference", x.frame(2, 0), 1);
        due("promise 16: cost", x.frame(2, 1), 17);
        due("promise 16: seek cost", x.frame(2, 2), 17 + 4 + 70);
        due("promise 16: depth", x.frame(2, 3), 2);
        due("promise 21: as a key frame", x.costWith(-1), 70);
    }

    /** The reference has the middle block of the canvas at several places, each once among its blocks. */
    private static void orderOfMoves() {
        moveFrom("the nearest", 0, 1, 3, 5, 7, 0, -4);
        moveFrom("dy before dx", 3, 5, 7, 8, 2, -4, 0);
        moveFrom("smaller dx", 5, 3, 7, -4, 0);
        moveFrom("dx 4", 5, 7, 4, 0);
        moveFrom("dy 4", 7, 0, 0, 4);
        moveFrom("corners", 0, 2, 6, 8, -4, -4);
        moveFrom("upper right", 2, 6, 8, 4, -4);
        moveFrom("lower left", 6, 8, -4, 4);
        moveFrom("lower right", 8, 4, 4);
    }

    /** The numbers: the blocks that have the picture, then dx and dy that are due. */
    private static void moveFrom(String what, int... numbers) {
        Counted x = new Counted();
        x.setSize(12, 12);
        x.setLimits(4, 4, 0);
        for (int i = 0; i < numbers.length - 2; i++) {
            picture(x, numbers[i]);
        }
        x.addKey();
        Checker.draw(x, "fill 0;");
        picture(x, 4);
        due("promise 10: " + what, x.addDelta(0), x.costWith(0));
        code(what, x, 1, 4, 1, numbers[numbers.length - 2], numbers[numbers.length - 1], -9);
    }

    private static void picture(Counted x, int block) {
        for (int i = 0; i < 16; i++) {
            x.setCell((block / 3 * 4 + i / 4) * 12 + block % 3 * 4 + i % 4, (i * 7 + 3) % 16);
        }
    }

    /** An even block in an even area of the reference that begins a step beside it. */
    private static void movesAtTheEdge() {
        evenArea("the nearest of a row", "box 5 4 7 4 7;", 1, 0);
        evenArea("the nearest of a column", "box 4 0 4 7 7;", 0, -1);
        evenArea("left and below", "box 3 5 4 4 7;box 5 3 4 4 7;", 1, -1);
        evenArea("just left and below", "box 3 5 4 4 7;", -1, 1);
        evenArea("two up", "box 4 2 4 4 7;box 5 3 4 4 7;", 0, -2);
        evenArea("smallest sum before smallest dy", "box 4 2 4 4 7;box 5 4 4 4 7;", 1, 0);
        Counted x = Checker.sized(4, 4, "7000", "7000", "7000", "7000");
        x.addKey();
        Checker.draw(x, "shift -1 0;");
        x.addDelta(0);
        due("promise 17: no move goes out of the reference", x.code(1, 0, 0), 3);
        x = Checker.sized(4, 8, "1234", "1234", "1234", "5678", "9abc", "def0", "4321", "1111");
        x.addKey();
        Checker.draw(x, "shift 0 -2;");
        x.addDelta(0);
        code("down from the top", x, 1, 0, 1, 0, 2, -9);
        Checker.draw(x, "frame 0;shift 0 2;");
        x.addDelta(0);
        code("up from the bottom", x, 2, 1, 1, 0, -2, -9);
        x = Checker.sized(8, 4);
        Checker.draw(x, "box 7 0 1 4 7;");
        x.addKey();
        Checker.draw(x, "shift -7 0;box 4 0 4 4 7;");
        x.addDelta(0);
        due("promise 17: no move goes around the reference", x.code(1, 0, 0), 2);
    }

    private static void evenArea(String what, String boxes, int dx, int dy) {
        Counted x = new Counted();
        x.setSize(12, 12);
        Checker.draw(x, boxes);
        x.addKey();
        Checker.draw(x, "fill 0;box 4 4 4 4 7;");
        x.addDelta(0);
        code(what, x, 1, 4, 1, dx, dy, -9);
    }

    private static void rangeOfMoves() {
        for (int range = 0; range <= 4; range++) {
            for (int way = 1; way <= 4; way++) {
                Counted x = new Counted();
                x.setSize(12, 4);
                picture(x, 0);
                x.addKey();
                Checker.draw(x, "shift " + way + " 0;");
                x.setLimits(range, 4, 0);
                int before = x.costWith(0);
                due("promise 10: range " + range, x.addDelta(0), before);
                if (way == 4) {
                    due("promise 14: range " + range + ", way 4", x.code(1, 1, 0), range == 4 ? 1 : 2);
                    due("promise 17: dx", x.code(1, 1, 1), range == 4 ? -4 : -9);
                }
            }
        }
    }

    private static void deltaAndRaw() {
        Counted x = Checker.sized(4, 4, "1234", "5678", "9abc", "def0");
        x.addKey();
        x.setCell(15, 15);
        due("promise 10: delta", x.addDelta(0), 2 + 2 + 4);
        code("delta", x, 1, 0, 2, -9, -9, 2);
        due("promise 18: zeros", x.run(1, 0, 0, 0), 15);
        due("promise 18: zeros", x.run(1, 0, 0, 1), 0);
        due("promise 18: the last", x.run(1, 0, 1, 0), 1);
        due("promise 18: the last", x.run(1, 0, 1, 1), 15);
        due("promise 18: none", x.run(1, 0, 2, 1), -9);
        due("promise 16: delta codes", x.frame(1, 7), 1);
        x.setCell(15, 14);
        x.addDelta(1);
        due("promise 18: a difference modulo 16", x.run(2, 0, 1, 1), 15);
        Checker.draw(x, "fill 3;");
        due("promise 10: raw", x.addDelta(2), 6);
        code("raw", x, 3, 0, 3, -9, -9, 1);
        due("promise 18: raw value", x.run(3, 0, 0, 1), 3);
        Checker.draw(x, "fill 5;");
        due("promise 10: a tie", x.addDelta(3), 6);
        code("delta before raw", x, 4, 0, 2, -9, -9, 1);
        due("promise 18: the difference", x.run(4, 0, 0, 1), 2);
    }

    private static void runs() {
        Counted x = Checker.sized(4, 4, "1112", "2111", "1111", "1110");
        x.addKey();
        int[][] wanted = {{3, 1}, {2, 2}, {10, 1}, {1, 0}};
        for (int r = 0; r < wanted.length; r++) {
            due("promise 18: length of run " + r, x.run(0, 0, r, 0), wanted[r][0]);
            due("promise 18: value of run " + r, x.run(0, 0, r, 1), wanted[r][1]);
        }
        due("promise 18: run(0, 0, 4, 0)", x.run(0, 0, 4, 0), -9);
        due("promise 18: run(0, 0, MAX, 0)", x.run(0, 0, Integer.MAX_VALUE, 0), -9);
        due("promise 18: run -1", x.run(0, 0, -1, 0), -1);
        due("promise 18: part 2", x.run(0, 0, 0, 2), -1);
        due("promise 18: part -1", x.run(0, 0, 0, -1), -1);
        due("promise 18: block 1", x.run(0, 1, 0, 0), -1);
        due("promise 18: block -1", x.run(0, -1, 0, 0), -1);
        due("promise 18: frame 1", x.run(1, 0, 0, 0), -1);
        due("promise 18: frame -1", x.run(-1, 0, 0, 0), -1);
        due("promise 18: no such run, wrong part", x.run(0, 0, 4, 2), -1);
        due("promise 17: part 4", x.code(0, 0, 4), -1);
        due("promise 17: part -1", x.code(0, 0, -1), -1);
        due("promise 17: block 1", x.code(0, 1, 0), -1);
        due("promise 17: block -1", x.code(0, -1, 0), -1);
        due("promise 17: frame 1", x.code(1, 0, 0), -1);
        due("promise 17: frame -1", x.code(-1, 0, 0), -1);
        x.setLost(0, 1);
        due("promise 17: a lost record can be asked", x.code(0, 0, 3), 4);
        due("promise 18: a lost record can be asked", x.run(0, 0, 2, 0), 10);
    }

    /** Of 4 by 4 cells: an even canvas costs 6 as a key frame, and 3 if it is kept. */
    private static void chosenReference() {
        Counted x = Checker.sized(4, 4);
        due("promise 11: the first is a key frame", x.addChosen(), 6);
        due("promise 11: no reference", x.frame(0, 0), -9);
        due("promise 11: kept", x.addChosen(), 3);
        due("promise 11: of equal ones the smallest depth", x.addChosen(), 3);
        due("promise 11: so frame 0 again", x.frame(2, 0), 0);
        due("promise 11: depth", x.frame(2, 3), 1);
        Checker.draw(x, "fill 9;");
        due("promise 11: a tie with the key frame", x.addChosen(), 6);
        due("promise 11: the key frame has depth 0", x.frame(3, 0), -9);
        due("promise 11: kept", x.addChosen(), 3);
        due("promise 11: from frame 3", x.frame(4, 0), 3);
        for (int f = 5; f < 10; f++) {
            due("promise 11: kept", x.addChosen(), 3);
        }
        due("promise 11: full", x.addChosen(), -3);
        due("promise 11: full", x.count(2), 10);
    }

    private static void chosenByDepth() {
        Counted x = Checker.sized(4, 4, "1234", "1234", "1234", "1234");
        x.addKey();
        x.setCell(0, 9);
        x.addDelta(0);
        x.setCell(1, 9);
        x.addDelta(1);
        x.setCell(2, 9);
        x.addKey();
        x.setCell(2, 3);
        x.setCell(15, 12);
        // from frame 0: 9-1, 9-2, zeros, 8; from frame 1: 0, 7, zeros, 8; from 2: zeros, 8; from 3: 0, 10, zeros, 8
        due("promise 11: the cheapest", x.addChosen(), 8);
        due("promise 11: its reference", x.frame(4, 0), 2);
        due("promise 11: its depth", x.frame(4, 3), 3);
    }

    private static void chosenByNumber() {
        Counted x = Checker.sized(4, 4, "1234", "1234", "1234", "1234");
        x.addKey();
        x.addKey();
        x.addDelta(0);
        due("promise 11: kept", x.addChosen(), 3);
        due("promise 11: of equal cost and depth the greatest number", x.frame(3, 0), 1);
        x.setLost(1, 1);
        due("promise 11: a lost one is no reference", x.addChosen(), 3);
        due("promise 11: so frame 0", x.frame(4, 0), 0);
        x.setLost(0, 1);
        due("promise 11: nothing can be decoded", x.addChosen(), 36);
        due("promise 11: so a key frame", x.frame(5, 0), -9);
    }

    private static void chosenWithLimits() {
        Counted x = Checker.sized(4, 4, "1234", "1234", "1234", "1234");
        x.setLimits(2, 1, 0);
        x.addKey();
        x.setCell(0, 9);
        x.addDelta(0);
        due("promise 11: depth 1 is at the limit", x.addChosen(), 8);
        due("promise 11: so frame 0", x.frame(2, 0), 0);
        due("promise 10: at the limit", x.addDelta(1), -2);
        due("promise 21: the limit does not bind costWith", x.costWith(1), 3);
        x.setLimits(2, 2, 0);
        due("promise 11: below the limit", x.addChosen(), 3);
        due("promise 11: the greatest number", x.frame(3, 0), 2);
        x.setLimits(2, 0, 0);
        due("promise 11: key frames alone", x.addChosen(), 36);
        due("promise 10: key frames alone", x.addDelta(0), -2);
    }
}
