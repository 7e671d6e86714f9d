/**
 * A coder for sequences of small images: frames are stored whole or as differences to another
 * frame, and can be asked for their codes, chains, costs and plans.
 */
public final class FrameDeltas {
    public static final int INVALID_ARGUMENT = -1;
    public static final int ILLEGAL_STATE = -2;
    public static final int CAPACITY_EXCEEDED = -3;
    public static final int NONE = -9;

    private static final int CANVAS = -1;
    private static final int KEY = -1;

    private static final int SIDE = 4;
    private static final int BLOCK_CELLS = 16;
    private static final int FIRST_SIZE = 8;
    private static final int MOST_CELLS = 144;
    private static final int MOST_BLOCKS = 9;
    private static final int MOST_PARTS = 81;
    private static final int MOST_VALUE = 15;
    private static final int MOST_FRAMES = 10;
    private static final int MOST_SAVED = 6;
    private static final int MOST_TEXT = 160;
    private static final int MOST_RANGE = 4;
    private static final int MOST_DEPTH = 9;
    private static final int MOST_RATE = 9;

    private static final int KEEP = 0;
    private static final int MOVE = 1;
    private static final int DELTA = 2;
    private static final int RAW = 3;

    private static final int KIND = 0;
    private static final int DX = 1;
    private static final int DY = 2;
    private static final int RUNS = 3;
    private static final int CODE_PARTS = 4;

    private final State state;
    private final State[] saved;
    private int oldestSaved;
    private int savedStates;
    private final Script script;
    private final Coder coder;
    private final Planner planner;
    private final Frame trial;
    private final Image spare;
    private final int[] digests;

    public FrameDeltas() {
        state = new State();
        saved = new State[MOST_SAVED];
        for (int i = 0; i < saved.length; i++) {
            saved[i] = new State();
        }
        oldestSaved = 0;
        savedStates = 0;
        script = new Script();
        coder = new Coder();
        planner = new Planner();
        trial = new Frame();
        spare = new Image();
        digests = new int[MOST_PARTS];
    }

    // ---- canvas

    public int setSize(int width, int height) {
        if (!isSize(width) || !isSize(height)) {
            return INVALID_ARGUMENT;
        }
        save();
        state.frameCount = 0;
        state.canvas.reset(width, height);
        return state.canvas.blocks();
    }

    public int setCell(int cell, int value) {
        if (!state.canvas.hasCell(cell) || value < 0 || value > MOST_VALUE) {
            return INVALID_ARGUMENT;
        }
        save();
        int previous = state.canvas.numbered(cell);
        state.canvas.putNumbered(cell, value);
        return previous;
    }

    public int cell(int cell) {
        if (!state.canvas.hasCell(cell)) {
            return INVALID_ARGUMENT;
        }
        return state.canvas.numbered(cell);
    }

    public int appendCharacter(int character) {
        if (character < 0 || character > 255) {
            return INVALID_ARGUMENT;
        }
        if (script.length >= MOST_TEXT) {
            return CAPACITY_EXCEEDED;
        }
        return script.append((char) character);
    }

    public int clearText() {
        int previous = script.length;
        script.length = 0;
        return previous;
    }

    public int draw() {
        int error = script.errorPosition(state);
        if (error >= 0) {
            return -10 - error;
        }
        save();
        int commands = script.carryOut(state, spare);
        script.length = 0;
        return commands;
    }

    public int digest(int frame, int x, int y) {
        if (!state.isImage(frame) || !state.canvas.hasPart(x, y)) {
            return INVALID_ARGUMENT;
        }
        if (!state.isReadable(frame)) {
            return ILLEGAL_STATE;
        }
        return state.imageOf(frame).partDigest(x, y);
    }

    // ---- frames

    public int addKey() {
        if (state.frameCount >= MOST_FRAMES) {
            return CAPACITY_EXCEEDED;
        }
        return add(KEY);
    }

    public int addDelta(int reference) {
        if (!state.isFrame(reference)) {
            return INVALID_ARGUMENT;
        }
        if (!state.mayBeReference(reference)) {
            return ILLEGAL_STATE;
        }
        if (state.frameCount >= MOST_FRAMES) {
            return CAPACITY_EXCEEDED;
        }
        return add(reference);
    }

    public int addChosen() {
        if (state.frameCount >= MOST_FRAMES) {
            return CAPACITY_EXCEEDED;
        }
        return add(chosenReference());
    }

    public int removeLast() {
        if (state.frameCount < 1) {
            return ILLEGAL_STATE;
        }
        save();
        state.frameCount--;
        return state.frameCount;
    }

    public int recode() {
        if (state.frameCount < 1) {
            return ILLEGAL_STATE;
        }
        save();
        planner.plan(state, coder, trial);
        for (int f = 0; f < state.frameCount; f++) {
            coder.encode(state.frameAt(f), state, planner.referenceOf(f));
        }
        return planner.cost;
    }

    public int setLimits(int range, int depth, int rate) {
        if (range < 0 || range > MOST_RANGE || depth < 0 || depth > MOST_DEPTH) {
            return INVALID_ARGUMENT;
        }
        if (rate < 0 || rate > MOST_RATE) {
            return INVALID_ARGUMENT;
        }
        save();
        boolean same = state.range == range && state.depthLimit == depth && state.rate == rate;
        state.range = range;
        state.depthLimit = depth;
        state.rate = rate;
        return same ? 0 : 1;
    }

    public int setLost(int frame, int on) {
        if (!state.isFrame(frame) || on < 0 || on > 1) {
            return INVALID_ARGUMENT;
        }
        boolean lost = on == 1;
        if (state.frameAt(frame).lost == lost) {
            return ILLEGAL_STATE;
        }
        save();
        state.frameAt(frame).lost = lost;
        return state.readableFrames();
    }

    public int frame(int frame, int what) {
        if (!state.isFrame(frame)) {
            return INVALID_ARGUMENT;
        }
        Frame it = state.frameAt(frame);
        switch (what) {
            case 0:
                return it.reference == KEY ? NONE : it.reference;
            case 1:
                return it.cost;
            case 2:
                return state.seekCost(frame);
            case 3:
                return state.depthOf(frame);
            case 4:
                return state.isReadable(frame) ? 1 : 0;
            case 5:
                return it.codesOfKind(KEEP);
            case 6:
                return it.codesOfKind(MOVE);
            case 7:
                return it.codesOfKind(DELTA);
            case 8:
                return it.codesOfKind(RAW);
            default:
                return INVALID_ARGUMENT;
        }
    }

    public int code(int frame, int block, int part) {
        if (!state.isFrame(frame) || !state.canvas.hasBlock(block)) {
            return INVALID_ARGUMENT;
        }
        if (part < 0 || part >= CODE_PARTS) {
            return INVALID_ARGUMENT;
        }
        Frame it = state.frameAt(frame);
        int kind = it.codePart(block, KIND);
        if ((part == DX || part == DY) && kind != MOVE) {
            return NONE;
        }
        if (part == RUNS && kind != DELTA && kind != RAW) {
            return NONE;
        }
        return it.codePart(block, part);
    }

    public int run(int frame, int block, int run, int part) {
        if (!state.isFrame(frame) || !state.canvas.hasBlock(block)) {
            return INVALID_ARGUMENT;
        }
        if (run < 0 || part < 0 || part > 1) {
            return INVALID_ARGUMENT;
        }
        Frame it = state.frameAt(frame);
        int kind = it.codePart(block, KIND);
        if (kind != DELTA && kind != RAW) {
            return NONE;
        }
        Image base = kind == DELTA ? state.frameAt(it.reference).image : null;
        RunList runs = coder.raw;
        runs.read(it.image, base, block);
        if (run >= runs.size) {
            return NONE;
        }
        return part == 0 ? runs.lengthOf(run) : runs.valueOf(run);
    }

    public int pixel(int frame, int cell) {
        if (!state.isFrame(frame) || !state.canvas.hasCell(cell)) {
            return INVALID_ARGUMENT;
        }
        if (!state.isReadable(frame)) {
            return ILLEGAL_STATE;
        }
        return state.imageOf(frame).numbered(cell);
    }

    public int count(int what) {
        switch (what) {
            case 0:
                return state.canvas.width;
            case 1:
                return state.canvas.height;
            case 2:
                return state.frameCount;
            case 3:
                return state.range;
            case 4:
                return state.depthLimit;
            case 5:
                return state.rate;
            case 6:
                return state.costOfRecords();
            case 7:
                return state.readableFrames();
            case 8:
                return script.length;
            case 9:
                return savedStates;
            default:
                return INVALID_ARGUMENT;
        }
    }

    // ---- questions

    public int costWith(int reference) {
        if (!state.isImage(reference)) {
            return INVALID_ARGUMENT;
        }
        if (!state.isReadable(reference)) {
            return ILLEGAL_STATE;
        }
        return costOfCanvas(reference);
    }

    public int difference(int first, int second) {
        if (!state.isImage(first) || !state.isImage(second)) {
            return INVALID_ARGUMENT;
        }
        if (!state.isReadable(first) || !state.isReadable(second)) {
            return ILLEGAL_STATE;
        }
        return state.imageOf(first).cellsUnlike(state.imageOf(second));
    }

    public int findBlock(int frame, int block) {
        if (!state.isFrame(frame) || !state.canvas.hasBlock(block)) {
            return INVALID_ARGUMENT;
        }
        if (!state.isReadable(frame)) {
            return ILLEGAL_STATE;
        }
        Image image = state.imageOf(frame);
        int left = state.canvas.left(block);
        int top = state.canvas.top(block);
        for (int y = 0; y <= image.height - SIDE; y++) {
            for (int x = 0; x <= image.width - SIDE; x++) {
                if (state.canvas.samePart(left, top, image, x, y)) {
                    return 100 * x + y;
                }
            }
        }
        return NONE;
    }

    public int falseMatches(int frame) {
        if (!state.isImage(frame)) {
            return INVALID_ARGUMENT;
        }
        if (!state.isReadable(frame)) {
            return ILLEGAL_STATE;
        }
        return falsePairs(state.imageOf(frame));
    }

    public int greatestSeek() {
        if (state.frameCount < 1) {
            return NONE;
        }
        int greatest = 0;
        for (int f = 0; f < state.frameCount; f++) {
            greatest = Math.max(greatest, state.seekCost(f));
        }
        return greatest;
    }

    public int dependents(int frame) {
        if (!state.isFrame(frame)) {
            return INVALID_ARGUMENT;
        }
        int dependents = 0;
        for (int f = 0; f < state.frameCount; f++) {
            if (state.chainHas(f, frame)) {
                dependents++;
            }
        }
        return dependents;
    }

    public int patch(int frame) {
        if (!state.isFrame(frame)) {
            return INVALID_ARGUMENT;
        }
        if (!state.frameAt(frame).lost) {
            return ILLEGAL_STATE;
        }
        Image wanted = state.imageOf(frame);
        int best = NONE;
        int fewest = MOST_CELLS + 1;
        for (int f = 0; f < state.frameCount; f++) {
            if (state.isReadable(f)) {
                int unlike = wanted.cellsUnlike(state.imageOf(f));
                if (unlike < fewest) {
                    fewest = unlike;
                    best = f;
                }
            }
        }
        return best;
    }

    public int planCost() {
        if (state.frameCount < 1) {
            return NONE;
        }
        planner.plan(state, coder, trial);
        return planner.cost;
    }

    public int planKeys() {
        if (state.frameCount < 1) {
            return NONE;
        }
        planner.plan(state, coder, trial);
        return planner.keys;
    }

    public int undo() {
        if (savedStates < 1) {
            return ILLEGAL_STATE;
        }
        savedStates--;
        state.take(savedSlot(savedStates));
        return savedStates;
    }

    // ---- what several methods share

    private static boolean isSize(int length) {
        return length == 4 || length == 8 || length == 12;
    }

    /** To be called when no error is possible any more and nothing has been changed yet. */
    private void save() {
        savedSlot(savedStates).take(state);
        if (savedStates < MOST_SAVED) {
            savedStates++;
        } else {
            oldestSaved = (oldestSaved + 1) % MOST_SAVED;
        }
    }

    /** The slots form a ring, so the one behind six saved states is that of the oldest. */
    private State savedSlot(int age) {
        int slot = (oldestSaved + age) % MOST_SAVED;
        return slot >= 0 && slot < saved.length ? saved[slot] : state;
    }

    private int add(int reference) {
        save();
        Frame it = state.frameAt(state.frameCount);
        it.image.take(state.canvas);
        coder.encode(it, state, reference);
        state.frameCount++;
        return it.cost;
    }

    private int costOfCanvas(int reference) {
        trial.image.take(state.canvas);
        coder.encode(trial, state, reference);
        return trial.cost;
    }

    private int chosenReference() {
        int best = KEY;
        int bestCost = costOfCanvas(KEY);
        int bestDepth = 0;
        for (int f = 0; f < state.frameCount; f++) {
            if (!state.mayBeReference(f)) {
                continue;
            }
            int cost = costOfCanvas(f);
            int depth = state.depthOf(f) + 1;
            // later frames win what is equal, but never against the key frame, whose depth is 0
            if (cost < bestCost || (cost == bestCost && depth <= bestDepth)) {
                best = f;
                bestCost = cost;
                bestDepth = depth;
            }
        }
        return best;
    }

    private int falsePairs(Image image) {
        int columns = image.width - SIDE + 1;
        int parts = Math.min(digests.length, columns * (image.height - SIDE + 1));
        if (columns < 1) {
            return 0;
        }
        for (int p = 0; p < parts; p++) {
            digests[p] = image.partDigest(p % columns, p / columns);
        }
        int pairs = 0;
        for (int p = 0; p < parts; p++) {
            for (int q = p + 1; q < parts; q++) {
                if (digests[p] == digests[q] && !image.samePart(p % columns, p / columns, image,
                        q % columns, q / columns)) {
                    pairs++;
                }
            }
        }
        return pairs;
    }

    /** An image of a size that may change; the row of its cells is long enough for every size. */
    private static final class Image {
        private final int[] cells;
        private int width;
        private int height;

        private Image() {
            cells = new int[MOST_CELLS];
            width = FIRST_SIZE;
            height = FIRST_SIZE;
        }

        private void reset(int newWidth, int newHeight) {
            width = newWidth;
            height = newHeight;
            for (int i = 0; i < cells.length; i++) {
                cells[i] = 0;
            }
        }

        private void take(Image other) {
            width = other.width;
            height = other.height;
            System.arraycopy(other.cells, 0, cells, 0, MOST_CELLS);
        }

        private boolean hasCell(int number) {
            return number >= 0 && number < width * height;
        }

        private int numbered(int number) {
            return number >= 0 && number < cells.length ? cells[number] : 0;
        }

        private void putNumbered(int number, int value) {
            if (number >= 0 && number < cells.length) {
                cells[number] = value;
            }
        }

        /** Cells outside of the image count as 0, as a shift wants it. */
        private int at(int x, int y) {
            if (x < 0 || x >= width || y < 0 || y >= height) {
                return 0;
            }
            int number = y * width + x;
            return number < cells.length ? cells[number] : 0;
        }

        private int blocks() {
            return (width / SIDE) * (height / SIDE);
        }

        private boolean hasBlock(int block) {
            return block >= 0 && block < blocks();
        }

        private int left(int block) {
            return SIDE * (block % Math.max(1, width / SIDE));
        }

        private int top(int block) {
            return SIDE * (block / Math.max(1, width / SIDE));
        }

        private boolean hasPart(int x, int y) {
            return x >= 0 && x <= width - SIDE && y >= 0 && y <= height - SIDE;
        }

        private int partDigest(int x, int y) {
            int sum = 7;
            for (int i = 0; i < BLOCK_CELLS; i++) {
                sum = (sum * 31 + at(x + i % SIDE, y + i / SIDE)) % 9973;
            }
            return sum;
        }

        /** Both parts have to lie wholly in their images; nobody asks for others. */
        private boolean samePart(int x, int y, Image other, int otherX, int otherY) {
            for (int i = 0; i < BLOCK_CELLS; i++) {
                int here = (y + i / SIDE) * width + x + i % SIDE;
                int there = (otherY + i / SIDE) * other.width + otherX + i % SIDE;
                if (here < 0 || here >= cells.length || there < 0 || there >= other.cells.length) {
                    return false;
                }
                if (cells[here] != other.cells[there]) {
                    return false;
                }
            }
            return true;
        }

        private int cellsUnlike(Image other) {
            int unlike = 0;
            for (int i = 0; i < width * height; i++) {
                if (numbered(i) != other.numbered(i)) {
                    unlike++;
                }
            }
            return unlike;
        }

        private void fillBox(int x, int y, int boxWidth, int boxHeight, int value) {
            for (int row = y; row < Math.min(height, y + boxHeight); row++) {
                for (int column = x; column < Math.min(width, x + boxWidth); column++) {
                    putNumbered(row * width + column, value);
                }
            }
        }

        private void takeShifted(Image source, int dx, int dy) {
            for (int y = 0; y < height; y++) {
                for (int x = 0; x < width; x++) {
                    putNumbered(y * width + x, source.at(x - dx, y - dy));
                }
            }
        }

        private void swapValues(int a, int b) {
            for (int i = 0; i < cells.length; i++) {
                if (cells[i] == a) {
                    cells[i] = b;
                } else if (cells[i] == b) {
                    cells[i] = a;
                }
            }
        }
    }

    /** A frame: its true image and its record, but for the run lists, which follow from them. */
    private static final class Frame {
        private final Image image;
        private final int[] codes;
        private int reference;
        private int cost;
        private boolean lost;

        private Frame() {
            image = new Image();
            codes = new int[MOST_BLOCKS * CODE_PARTS];
            reference = KEY;
            cost = 0;
            lost = false;
        }

        private void take(Frame other) {
            image.take(other.image);
            System.arraycopy(other.codes, 0, codes, 0, MOST_BLOCKS * CODE_PARTS);
            reference = other.reference;
            cost = other.cost;
            lost = other.lost;
        }

        private int codePart(int block, int part) {
            int place = block * CODE_PARTS + part;
            return place >= 0 && place < codes.length ? codes[place] : 0;
        }

        private void setCode(int block, int kind, int dx, int dy, int runs) {
            int place = block * CODE_PARTS;
            if (place >= 0 && place + RUNS < codes.length) {
                codes[place + KIND] = kind;
                codes[place + DX] = dx;
                codes[place + DY] = dy;
                codes[place + RUNS] = runs;
            }
        }

        private int codesOfKind(int kind) {
            int found = 0;
            for (int b = 0; b < image.blocks(); b++) {
                if (codePart(b, KIND) == kind) {
                    found++;
                }
            }
            return found;
        }
    }

    /** All that undo brings back: the canvas, the frames and the limits. */
    private static final class State {
        private final Image canvas;
        private final Frame[] frames;
        private final Frame nowhere;
        private int frameCount;
        private int range;
        private int depthLimit;
        private int rate;

        private State() {
            canvas = new Image();
            frames = new Frame[MOST_FRAMES];
            for (int f = 0; f < frames.length; f++) {
                frames[f] = new Frame();
            }
            nowhere = new Frame();
            frameCount = 0;
            range = 2;
            depthLimit = 4;
            rate = 0;
        }

        private void take(State other) {
            canvas.take(other.canvas);
            frameCount = other.frameCount;
            range = other.range;
            depthLimit = other.depthLimit;
            rate = other.rate;
            for (int f = 0; f < frameCount; f++) {
                frameAt(f).take(other.frameAt(f));
            }
        }

        /** A number without a frame gets a frame of its own, so that nobody has to expect null. */
        private Frame frameAt(int number) {
            return number >= 0 && number < frames.length ? frames[number] : nowhere;
        }

        private boolean isFrame(int number) {
            return number >= 0 && number < frameCount;
        }

        private boolean isImage(int number) {
            return number == CANVAS || isFrame(number);
        }

        private Image imageOf(int number) {
            return number == CANVAS ? canvas : frameAt(number).image;
        }

        /** Whether no record of the chain is lost; the canvas, which has no chain, is readable. */
        private boolean isReadable(int number) {
            int link = number;
            for (int step = 0; step < MOST_FRAMES && link >= 0; step++) {
                if (frameAt(link).lost) {
                    return false;
                }
                link = frameAt(link).reference;
            }
            return true;
        }

        private boolean mayBeReference(int number) {
            return isReadable(number) && depthOf(number) < depthLimit;
        }

        private int depthOf(int number) {
            int depth = 0;
            int link = frameAt(number).reference;
            for (int step = 0; step < MOST_FRAMES && link >= 0; step++) {
                depth++;
                link = frameAt(link).reference;
            }
            return depth;
        }

        private int seekCost(int number) {
            int sum = 0;
            int link = number;
            for (int step = 0; step < MOST_FRAMES && link >= 0; step++) {
                sum += frameAt(link).cost;
                link = frameAt(link).reference;
            }
            return sum;
        }

        private boolean chainHas(int number, int wanted) {
            int link = number;
            for (int step = 0; step < MOST_FRAMES && link >= 0; step++) {
                if (link == wanted) {
                    return true;
                }
                link = frameAt(link).reference;
            }
            return false;
        }

        private int readableFrames() {
            int readable = 0;
            for (int f = 0; f < frameCount; f++) {
                if (isReadable(f)) {
                    readable++;
                }
            }
            return readable;
        }

        private int costOfRecords() {
            int sum = 0;
            for (int f = 0; f < frameCount; f++) {
                sum += frameAt(f).cost;
            }
            return sum;
        }
    }

    /** The run list of a block, read into rows that are used again for the next block. */
    private static final class RunList {
        private final int[] lengths;
        private final int[] values;
        private int size;

        private RunList() {
            lengths = new int[BLOCK_CELLS];
            values = new int[BLOCK_CELLS];
            size = 0;
        }

        /** Without a base the list gives the cells themselves, with one what is to be added. */
        private void read(Image image, Image base, int block) {
            int left = image.left(block);
            int top = image.top(block);
            size = 0;
            for (int i = 0; i < BLOCK_CELLS; i++) {
                int x = left + i % SIDE;
                int y = top + i / SIDE;
                int value = image.at(x, y);
                if (base != null) {
                    value = (value - base.at(x, y)) & MOST_VALUE;
                }
                addCell(value);
            }
        }

        private void addCell(int value) {
            int last = size - 1;
            boolean goesOn = last >= 0 && last < values.length && values[last] == value;
            if (goesOn && last < lengths.length) {
                lengths[last]++;
            } else if (size >= 0 && size < lengths.length && size < values.length) {
                lengths[size] = 1;
                values[size] = value;
                size++;
            }
        }

        private int lengthOf(int run) {
            return run >= 0 && run < lengths.length ? lengths[run] : 0;
        }

        private int valueOf(int run) {
            return run >= 0 && run < values.length ? values[run] : 0;
        }
    }

    /** Chooses the codes of records. */
    private static final class Coder {
        private final RunList raw;
        private final RunList delta;
        private int dx;
        private int dy;

        private Coder() {
            raw = new RunList();
            delta = new RunList();
            dx = 0;
            dy = 0;
        }

        /** Makes the record of a frame whose image is there already. */
        private void encode(Frame it, State state, int reference) {
            Image base = reference == KEY ? null : state.imageOf(reference);
            it.reference = reference;
            it.lost = false;
            it.cost = 2;
            for (int b = 0; b < it.image.blocks(); b++) {
                it.cost += base == null ? encodeRaw(it, b) : encodeWith(it, b, base, state.range);
            }
        }

        private int encodeRaw(Frame it, int block) {
            raw.read(it.image, null, block);
            it.setCode(block, RAW, 0, 0, raw.size);
            return 2 + 2 * raw.size;
        }

        /** Run lists cost at least 4, so a keep or a move that is possible always wins. */
        private int encodeWith(Frame it, int block, Image base, int range) {
            int left = it.image.left(block);
            int top = it.image.top(block);
            if (it.image.samePart(left, top, base, left, top)) {
                it.setCode(block, KEEP, 0, 0, 0);
                return 1;
            }
            if (findMove(it.image, left, top, base, range)) {
                it.setCode(block, MOVE, dx, dy, 0);
                return 3;
            }
            raw.read(it.image, null, block);
            delta.read(it.image, base, block);
            if (raw.size < delta.size) {
                it.setCode(block, RAW, 0, 0, raw.size);
                return 2 + 2 * raw.size;
            }
            it.setCode(block, DELTA, 0, 0, delta.size);
            return 2 + 2 * delta.size;
        }

        /** Goes by the sum of both ways, then by dy, then by dx: the first that fits is due. */
        private boolean findMove(Image image, int left, int top, Image base, int range) {
            for (int sum = 1; sum <= 2 * range; sum++) {
                for (int down = -range; down <= range; down++) {
                    int aside = sum - Math.abs(down);
                    if (aside < 0 || aside > range) {
                        continue;
                    }
                    for (int right = -aside; right <= aside; right += Math.max(1, 2 * aside)) {
                        if (base.hasPart(left + right, top + down)
                                && image.samePart(left, top, base, left + right, top + down)) {
                            dx = right;
                            dy = down;
                            return true;
                        }
                    }
                }
            }
            return false;
        }
    }

    /** Finds the best plan. */
    private static final class Planner {
        private final int[] keyCosts;
        private final int[] deltaCosts;
        private int cost;
        private int keys;

        private Planner() {
            keyCosts = new int[MOST_FRAMES];
            deltaCosts = new int[MOST_FRAMES];
            cost = 0;
            keys = 0;
        }

        private void plan(State state, Coder coder, Frame trial) {
            int frames = Math.min(state.frameCount, MOST_FRAMES);
            measure(state, coder, trial, frames);
            cost = costOf(1, frames, state.rate);
            keys = 1;
            // sets come in ascending order, so of equal ones the smallest number stays
            for (int set = 3; set < 1 << frames; set += 2) {
                int itsCost = costOf(set, frames, state.rate);
                boolean fewer = Integer.bitCount(set) < Integer.bitCount(keys);
                if (itsCost < cost || (itsCost == cost && fewer)) {
                    cost = itsCost;
                    keys = set;
                }
            }
        }

        /** What a record costs depends on true images alone, not on the other records. */
        private void measure(State state, Coder coder, Frame trial, int frames) {
            for (int f = 0; f < frames && f < keyCosts.length && f < deltaCosts.length; f++) {
                trial.image.take(state.imageOf(f));
                coder.encode(trial, state, KEY);
                keyCosts[f] = trial.cost;
                if (f > 0) {
                    coder.encode(trial, state, f - 1);
                    deltaCosts[f] = trial.cost;
                }
            }
        }

        private int costOf(int set, int frames, int rate) {
            int sum = 0;
            int seek = 0;
            int greatest = 0;
            for (int f = 0; f < frames && f < keyCosts.length && f < deltaCosts.length; f++) {
                boolean key = (set >> f & 1) == 1;
                int record = key ? keyCosts[f] : deltaCosts[f];
                sum += record;
                seek = key ? record : seek + record;
                greatest = Math.max(greatest, seek);
            }
            return sum + rate * greatest;
        }

        private int referenceOf(int number) {
            return (keys >> number & 1) == 1 ? KEY : number - 1;
        }
    }

    /** The text, and the commands that were read from it. */
    private static final class Script {
        private static final int COMMANDS = 5;
        private static final int END = 0;
        private static final int WORD = 1;
        private static final int NUMBER = 2;
        private static final int OTHER = 3;

        private final char[] text;
        private int length;
        private int kind;
        private int start;
        private int behind;
        private int number;
        private final int[] program;
        private int programLength;

        private Script() {
            text = new char[MOST_TEXT];
            length = 0;
            kind = END;
            start = 0;
            behind = 0;
            number = 0;
            program = new int[MOST_TEXT];
            programLength = 0;
        }

        private int append(char sign) {
            if (length >= 0 && length < text.length) {
                text[length] = sign;
                length++;
            }
            return length;
        }

        private static String wordOf(int command) {
            switch (command) {
                case 0:
                    return "fill";
                case 1:
                    return "box";
                case 2:
                    return "shift";
                case 3:
                    return "swap";
                default:
                    return "frame";
            }
        }

        /** The arguments by kind: a value, a length, a way that may be negative, a frame. */
        private static String argumentsOf(int command) {
            switch (command) {
                case 0:
                    return "v";
                case 1:
                    return "llllv";
                case 2:
                    return "ww";
                case 3:
                    return "vv";
                default:
                    return "f";
            }
        }

        /** Reads the text into the program; the error position, or -1 if there is no error. */
        private int errorPosition(State state) {
            behind = 0;
            programLength = 0;
            for (int commands = 0; commands <= MOST_TEXT; commands++) {
                nextToken();
                if (kind == END) {
                    return -1;
                }
                if (!readCommand(state)) {
                    // at the end of the text the token is empty and starts at the text's length
                    return start;
                }
            }
            return start;
        }

        private boolean readCommand(State state) {
            int command = commandOfToken();
            if (command < 0) {
                return false;
            }
            addToProgram(command);
            String arguments = argumentsOf(command);
            for (int i = 0; i < arguments.length(); i++) {
                nextToken();
                if (!readNumber() || !isAllowed(arguments.charAt(i), state)) {
                    return false;
                }
                addToProgram(number);
            }
            nextToken();
            return kind == OTHER && signAt(start) == ';';
        }

        private void addToProgram(int value) {
            if (programLength >= 0 && programLength < program.length) {
                program[programLength] = value;
                programLength++;
            }
        }

        private void nextToken() {
            start = behind;
            while (start < length && signAt(start) == ' ') {
                start++;
            }
            behind = start;
            if (start >= length) {
                kind = END;
                return;
            }
            behind++;
            char first = signAt(start);
            if (isLetter(first)) {
                kind = WORD;
                while (behind < length && isLetter(signAt(behind))) {
                    behind++;
                }
            } else if (first == '-' || isDigit(first)) {
                kind = NUMBER;
                while (behind < length && isDigit(signAt(behind))) {
                    behind++;
                }
            } else {
                kind = OTHER;
            }
        }

        private char signAt(int offset) {
            return offset >= 0 && offset < length && offset < text.length ? text[offset] : ' ';
        }

        private static boolean isLetter(char sign) {
            return sign >= 'a' && sign <= 'z';
        }

        private static boolean isDigit(char sign) {
            return sign >= '0' && sign <= '9';
        }

        private int commandOfToken() {
            for (int command = 0; command < COMMANDS && kind == WORD; command++) {
                if (isToken(wordOf(command))) {
                    return command;
                }
            }
            return -1;
        }

        private boolean isToken(String word) {
            if (behind - start != word.length()) {
                return false;
            }
            for (int i = 0; i < word.length(); i++) {
                if (signAt(start + i) != word.charAt(i)) {
                    return false;
                }
            }
            return true;
        }

        /** Whether the token has the form of a number, which is then known. */
        private boolean readNumber() {
            if (kind != NUMBER) {
                return false;
            }
            int from = signAt(start) == '-' ? start + 1 : start;
            int digits = behind - from;
            if (digits < 1 || digits > 2 || (digits == 2 && signAt(from) == '0')) {
                return false;
            }
            number = signAt(from) - '0';
            if (digits == 2) {
                number = 10 * number + (signAt(from + 1) - '0');
            }
            if (from > start) {
                number = -number;
            }
            return true;
        }

        private boolean isAllowed(char argument, State state) {
            if (argument == 'w') {
                return number >= -12 && number <= 12;
            }
            // -0 is no number below 0, so the sign itself has to be refused
            if (signAt(start) == '-') {
                return false;
            }
            if (argument == 'f') {
                return state.isFrame(number) && state.isReadable(number);
            }
            return number <= (argument == 'v' ? MOST_VALUE : 12);
        }

        /** Carries the program out on the canvas; the number of its commands. */
        private int carryOut(State state, Image spare) {
            int commands = 0;
            int place = 0;
            while (place < programLength) {
                int command = programAt(place);
                apply(command, place + 1, state, spare);
                place += 1 + argumentsOf(command).length();
                commands++;
            }
            return commands;
        }

        private int programAt(int place) {
            return place >= 0 && place < program.length ? program[place] : 0;
        }

        private void apply(int command, int place, State state, Image spare) {
            Image canvas = state.canvas;
            int first = programAt(place);
            int second = programAt(place + 1);
            switch (command) {
                case 0:
                    canvas.fillBox(0, 0, canvas.width, canvas.height, first);
                    break;
                case 1:
                    canvas.fillBox(first, second, programAt(place + 2), programAt(place + 3),
                            programAt(place + 4));
                    break;
                case 2:
                    spare.take(canvas);
                    canvas.takeShifted(spare, first, second);
                    break;
                case 3:
                    canvas.swapValues(first, second);
                    break;
                default:
                    canvas.take(state.imageOf(first));
                    break;
            }
        }
    }
}
