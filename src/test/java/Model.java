import java.util.ArrayList;
import java.util.Arrays;
import java.util.List;

/**
 * The document once more, written for plainness alone and in another way than the class: every
 * code that gives a block is listed and the best one picked, and an image is decoded from its chain.
 */
final class Model {
    /** A code: kind, dx, dy, and the run list as pairs of length and value. */
    record Code(int kind, int dx, int dy, List<int[]> runs) {
        int cost() {
            return kind == 0 ? 1 : kind == 1 ? 3 : 2 + 2 * runs.size();
        }

        boolean isBefore(Code other) {
            int[] mine = {cost(), kind, Math.abs(dx) + Math.abs(dy), dy, dx};
            int[] its = {other.cost(), other.kind, Math.abs(other.dx) + Math.abs(other.dy), other.dy, other.dx};
            return Arrays.compare(mine, its) < 0;
        }
    }

    record Rec(int reference, List<Code> codes) {
        int cost() {
            return 2 + codes.stream().mapToInt(Code::cost).sum();
        }

        int ofKind(int kind) {
            return (int) codes.stream().filter(c -> c.kind == kind).count();
        }
    }

    int width = 8;
    int height = 8;
    int[][] canvas = new int[8][8];
    List<Rec> frames = new ArrayList<>();
    List<Boolean> lost = new ArrayList<>();
    int range = 2;
    int depth = 4;
    int rate = 0;
    String text = "";
    List<Model> saved = new ArrayList<>();

    private Model copy() {
        Model m = new Model();
        m.width = width;
        m.height = height;
        m.canvas = copyOf(canvas);
        m.frames = new ArrayList<>(frames);
        m.lost = new ArrayList<>(lost);
        m.range = range;
        m.depth = depth;
        m.rate = rate;
        return m;
    }

    static int[][] copyOf(int[][] image) {
        int[][] copy = new int[image.length][];
        for (int y = 0; y < image.length; y++) {
            copy[y] = image[y].clone();
        }
        return copy;
    }

    void save() {
        saved.add(copy());
        if (saved.size() > 6) {
            saved.remove(0);
        }
    }

    int undo() {
        if (saved.isEmpty()) {
            return -2;
        }
        Model m = saved.remove(saved.size() - 1);
        width = m.width;
        height = m.height;
        canvas = m.canvas;
        frames = m.frames;
        lost = m.lost;
        range = m.range;
        depth = m.depth;
        rate = m.rate;
        return saved.size();
    }

    int blocks() {
        return width * height / 16;
    }

    int left(int block) {
        return 4 * (block % (width / 4));
    }

    int top(int block) {
        return 4 * (block / (width / 4));
    }

    List<Integer> chain(int frame) {
        List<Integer> chain = new ArrayList<>();
        for (int f = frame; f >= 0; f = frames.get(f).reference) {
            chain.add(f);
        }
        return chain;
    }

    boolean readable(int frame) {
        return chain(frame).stream().noneMatch(f -> lost.get(f));
    }

    int readables() {
        int n = 0;
        for (int f = 0; f < frames.size(); f++) {
            n += readable(f) ? 1 : 0;
        }
        return n;
    }

    int seek(int frame) {
        return chain(frame).stream().mapToInt(f -> frames.get(f).cost()).sum();
    }

    static int[] part(int[][] image, int x, int y) {
        int[] part = new int[16];
        for (int i = 0; i < 16; i++) {
            part[i] = image[y + i / 4][x + i % 4];
        }
        return part;
    }

    /** The image as its records give it. */
    int[][] image(int frame) {
        if (frame == -1) {
            return canvas;
        }
        Rec rec = frames.get(frame);
        int[][] base = rec.reference < 0 ? new int[height][width] : image(rec.reference);
        int[][] image = new int[height][width];
        for (int b = 0; b < blocks(); b++) {
            Code c = rec.codes.get(b);
            int[] cells = c.kind == 3 ? new int[16] : part(base, left(b) + c.dx, top(b) + c.dy);
            int i = 0;
            for (int[] run : c.runs) {
                for (int k = 0; k < run[0]; k++) {
                    cells[i] = (cells[i] + run[1]) % 16;
                    i++;
                }
            }
            for (i = 0; i < 16; i++) {
                image[top(b) + i / 4][left(b) + i % 4] = cells[i];
            }
        }
        return image;
    }

    static List<int[]> runsOf(int[] cells, int[] base) {
        List<int[]> runs = new ArrayList<>();
        for (int i = 0; i < 16; i++) {
            int value = Math.floorMod(cells[i] - base[i], 16);
            if (i == 0 || runs.get(runs.size() - 1)[1] != value) {
                runs.add(new int[] {0, value});
            }
            runs.get(runs.size() - 1)[0]++;
        }
        return runs;
    }

    private Code best(int[] cells, int b, int[][] base) {
        List<Code> all = new ArrayList<>();
        all.add(new Code(3, 0, 0, runsOf(cells, new int[16])));
        if (base != null) {
            for (int y = 0; y + 4 <= height; y++) {
                for (int x = 0; x + 4 <= width; x++) {
                    int dx = x - left(b);
                    int dy = y - top(b);
                    boolean near = Math.abs(dx) <= range && Math.abs(dy) <= range;
                    boolean here = dx == 0 && dy == 0;
                    if ((near || here) && Arrays.equals(cells, part(base, x, y))) {
                        all.add(new Code(here ? 0 : 1, dx, dy, new ArrayList<>()));
                    }
                }
            }
            all.add(new Code(2, 0, 0, runsOf(cells, part(base, left(b), top(b)))));
        }
        Code best = all.get(0);
        for (Code c : all) {
            best = c.isBefore(best) ? c : best;
        }
        return best;
    }

    Rec coded(int[][] image, int reference, int[][] base) {
        List<Code> codes = new ArrayList<>();
        for (int b = 0; b < blocks(); b++) {
            codes.add(best(part(image, left(b), top(b)), b, base));
        }
        return new Rec(reference, codes);
    }

    Rec coded(int reference) {
        return coded(canvas, reference, reference < 0 ? null : image(reference));
    }

    int add(Rec rec) {
        save();
        frames.add(rec);
        lost.add(false);
        return rec.cost();
    }

    int addDelta(int reference) {
        if (reference < 0 || reference >= frames.size()) {
            return -1;
        }
        if (!readable(reference) || chain(reference).size() - 1 >= depth) {
            return -2;
        }
        return frames.size() == 10 ? -3 : add(coded(reference));
    }

    int addChosen() {
        if (frames.size() == 10) {
            return -3;
        }
        Rec best = null;
        int[] bestKey = null;
        for (int f = -1; f < frames.size(); f++) {
            int itsDepth = f < 0 ? 0 : chain(f).size();
            if (f >= 0 && (!readable(f) || itsDepth - 1 >= depth)) {
                continue;
            }
            Rec rec = coded(f);
            int[] key = {rec.cost(), itsDepth, -f};
            if (best == null || Arrays.compare(key, bestKey) < 0) {
                best = rec;
                bestKey = key;
            }
        }
        return add(best);
    }

    List<Rec> plan(int set) {
        List<Rec> plan = new ArrayList<>();
        for (int f = 0; f < frames.size(); f++) {
            boolean key = (set >> f & 1) == 1;
            plan.add(coded(image(f), key ? -1 : f - 1, key ? null : image(f - 1)));
        }
        return plan;
    }

    /** The cost of the best plan, and its set. */
    int[] bestPlan() {
        List<Rec> keys = plan(1023);
        List<Rec> deltas = plan(1);
        int[] best = null;
        for (int set = 1; set < 1 << frames.size(); set += 2) {
            int sum = 0;
            int seek = 0;
            int greatest = 0;
            for (int f = 0; f < frames.size(); f++) {
                boolean key = (set >> f & 1) == 1;
                int cost = (key ? keys : deltas).get(f).cost();
                sum += cost;
                seek = (key ? 0 : seek) + cost;
                greatest = Math.max(greatest, seek);
            }
            int[] mine = {sum + rate * greatest, Integer.bitCount(set), set};
            if (best == null || Arrays.compare(mine, best) < 0) {
                best = mine;
            }
        }
        return best;
    }

    int recode() {
        if (frames.isEmpty()) {
            return -2;
        }
        save();
        int[] best = bestPlan();
        frames = plan(best[2]);
        lost = new ArrayList<>();
        for (int f = 0; f < frames.size(); f++) {
            lost.add(false);
        }
        return best[0];
    }

    int difference(int[][] a, int[][] b) {
        int n = 0;
        for (int y = 0; y < height; y++) {
            for (int x = 0; x < width; x++) {
                n += a[y][x] == b[y][x] ? 0 : 1;
            }
        }
        return n;
    }

    int digest(int[] cells) {
        int digest = 7;
        for (int c : cells) {
            digest = (digest * 31 + c) % 9973;
        }
        return digest;
    }

    int falseMatches(int[][] image) {
        List<int[]> parts = new ArrayList<>();
        for (int y = 0; y + 4 <= height; y++) {
            for (int x = 0; x + 4 <= width; x++) {
                parts.add(part(image, x, y));
            }
        }
        int n = 0;
        for (int[] a : parts) {
            for (int[] b : parts) {
                n += digest(a) == digest(b) && Arrays.compare(a, b) < 0 ? 1 : 0;
            }
        }
        return n;
    }

    int findBlock(int frame, int block) {
        int[] wanted = part(canvas, left(block), top(block));
        for (int y = 0; y + 4 <= height; y++) {
            for (int x = 0; x + 4 <= width; x++) {
                if (Arrays.equals(wanted, part(image(frame), x, y))) {
                    return 100 * x + y;
                }
            }
        }
        return -9;
    }

    int patch(int frame) {
        int best = -9;
        for (int f = frames.size() - 1; f >= 0; f--) {
            if (readable(f) && (best < 0
                    || difference(image(f), image(frame)) <= difference(image(best), image(frame)))) {
                best = f;
            }
        }
        return best;
    }

    int draw() {
        ModelText reader = new ModelText(this, text);
        int error = reader.error();
        if (error >= 0) {
            return -10 - error;
        }
        save();
        text = "";
        canvas = reader.image;
        return reader.commands;
    }
}
