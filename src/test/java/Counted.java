/**
 * An object of the class that counts its calls: the document promises nothing about an object after
 * its 512th call, so a test that goes on has asked for what is free, and is stopped.
 */
final class Counted {
    static final int MOST_CALLS = 512;

    private final FrameDeltas it = new FrameDeltas();
    private int calls = 0;

    private FrameDeltas next() {
        if (calls == MOST_CALLS) {
            throw new IllegalStateException("a test has used an object for more than 512 calls");
        }
        calls++;
        return it;
    }

    /** How many calls are promised yet. */
    int left() {
        return MOST_CALLS - calls;
    }

    int setSize(int width, int height) {
        return next().setSize(width, height);
    }

    int setCell(int cell, int value) {
        return next().setCell(cell, value);
    }

    int cell(int cell) {
        return next().cell(cell);
    }

    int appendCharacter(int character) {
        return next().appendCharacter(character);
    }

    int clearText() {
        return next().clearText();
    }

    int draw() {
        return next().draw();
    }

    int digest(int frame, int x, int y) {
        return next().digest(frame, x, y);
    }

    int addKey() {
        return next().addKey();
    }

    int addDelta(int reference) {
        return next().addDelta(reference);
    }

    int addChosen() {
        return next().addChosen();
    }

    int removeLast() {
        return next().removeLast();
    }

    int recode() {
        return next().recode();
    }

    int setLimits(int range, int depth, int rate) {
        return next().setLimits(range, depth, rate);
    }

    int setLost(int frame, int on) {
        return next().setLost(frame, on);
    }

    int frame(int frame, int what) {
        return next().frame(frame, what);
    }

    int code(int frame, int block, int part) {
        return next().code(frame, block, part);
    }

    int run(int frame, int block, int run, int part) {
        return next().run(frame, block, run, part);
    }

    int pixel(int frame, int cell) {
        return next().pixel(frame, cell);
    }

    int count(int what) {
        return next().count(what);
    }

    int costWith(int reference) {
        return next().costWith(reference);
    }

    int difference(int first, int second) {
        return next().difference(first, second);
    }

    int findBlock(int frame, int block) {
        return next().findBlock(frame, block);
    }

    int falseMatches(int frame) {
        return next().falseMatches(frame);
    }

    int greatestSeek() {
        return next().greatestSeek();
    }

    int dependents(int frame) {
        return next().dependents(frame);
    }

    int patch(int frame) {
        return next().patch(frame);
    }

    int planCost() {
        return next().planCost();
    }

    int planKeys() {
        return next().planKeys();
    }

    int undo() {
        return next().undo();
    }
}
