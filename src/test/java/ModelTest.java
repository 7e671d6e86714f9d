import java.util.Random;

/** Long runs of calls, answered by the class and by the model: the seeds are fixed, so all runs are the same. */
public final class ModelTest {
    private static final Checker CHECKER = new Checker("ModelTest");
    private static final int RUNS = 4000;
    /** A step makes at most as many calls, but for the typing of a text. */
    private static final int STEP = 12;

    private final Random dice;
    private final Counted x = new Counted();
    private final Model m = new Model();
    private final String run;

    private ModelTest(int seed) {
        dice = new Random(seed);
        run = "run " + seed + ", ";
    }

    public static void main(String[] args) {
        for (int seed = 1; seed <= RUNS; seed++) {
            ModelTest test = new ModelTest(seed);
            if (seed % 3 != 0) {
                test.resize(seed % 2 == 0 ? 12 : 4, seed % 5 == 0 ? 4 : 8);
            }
            while (test.x.left() >= STEP) {
                test.step();
            }
        }
        CHECKER.finish();
    }

    private void due(String what, int got, int want) {
        CHECKER.due(run + what, got, want);
    }

    private int roll(int sides) {
        return dice.nextInt(sides);
    }

    /** Mostly a number below the bound, now and then one just outside. */
    private int near(int bound) {
        return roll(12) == 0 ? (dice.nextBoolean() ? -1 : bound) : roll(Math.max(1, bound));
    }

    private void step() {
        int kind = roll(100);
        if (kind < 2) {
            resize(near(4) * 4, near(4) * 4);
        } else if (kind < 14) {
            setCell(near(m.width * m.height), near(16));
        } else if (kind < 34) {
            draw();
        } else if (kind < 52) {
            addFrame();
        } else if (kind < 62) {
            changeFrames();
        } else if (kind < 66) {
            due("undo()", x.undo(), m.undo());
        } else if (kind < 82) {
            askFrame(near(m.frames.size()));
        } else {
            ask();
        }
    }

    private void resize(int width, int height) {
        boolean fine = width % 4 == 0 && width >= 4 && width <= 12 && height % 4 == 0 && height >= 4 && height <= 12;
        if (fine && roll(3) > 0 && m.frames.size() > 0) {
            return;
        }
        int want = -1;
        if (fine) {
            m.save();
            m.width = width;
            m.height = height;
            m.canvas = new int[height][width];
            m.frames = new java.util.ArrayList<>();
            m.lost = new java.util.ArrayList<>();
            want = m.blocks();
        }
        due("setSize(" + width + ", " + height + ")", x.setSize(width, height), want);
    }

    private void setCell(int cell, int value) {
        int want = -1;
        if (cell >= 0 && cell < m.width * m.height && value >= 0 && value < 16) {
            m.save();
            want = m.canvas[cell / m.width][cell % m.width];
            m.canvas[cell / m.width][cell % m.width] = value;
        }
        due("setCell(" + cell + ", " + value + ")", x.setCell(cell, value), want);
    }

    private String number(int bound) {
        return (roll(30) == 0 ? "-" : "") + (roll(40) == 0 ? "0" : "") + (roll(15) == 0 ? bound : roll(bound));
    }

    private String way() {
        return (dice.nextBoolean() ? " -" : " ") + (roll(10) == 0 ? roll(14) : roll(3));
    }

    private String command() {
        switch (roll(8)) {
            case 0:
                return "fill " + number(16) + ";";
            case 1:
                return "frame " + roll(m.frames.size() + 1) + ";";
            case 2:
                return "swap " + number(16) + " " + number(16) + ";";
            case 3:
            case 4:
                return "shift" + way() + way() + " ;";
            default:
                return " box " + number(13) + " " + number(13) + " " + number(6) + " " + number(6) + " " + number(16) + ";";
        }
    }

    private void draw() {
        StringBuilder text = new StringBuilder();
        for (int n = roll(3) / 2; n >= 0; n--) {
            text.append(command());
        }
        if (roll(5) == 0) {
            int at = roll(text.length());
            char sign = " -0;5afx\u0000\u00ff".charAt(roll(10));
            switch (roll(3)) {
                case 0:
                    text.setCharAt(at, sign);
                    break;
                case 1:
                    text.insert(at, sign);
                    break;
                default:
                    text.setLength(at);
                    break;
            }
        }
        if (text.length() + STEP > x.left()) {
            return;
        }
        due("clearText()", x.clearText(), m.text.length());
        m.text = text.toString();
        for (int i = 0; i < text.length(); i++) {
            due("appendCharacter", x.appendCharacter(text.charAt(i)), i + 1);
        }
        due("draw() of \"" + text + "\"", x.draw(), m.draw());
        due("length of the text", x.count(8), m.text.length());
    }

    private void addFrame() {
        int reference = near(m.frames.size());
        switch (roll(4)) {
            case 0:
                due("addKey()", x.addKey(), m.frames.size() == 10 ? -3 : m.add(m.coded(-1)));
                break;
            case 1:
                due("addChosen()", x.addChosen(), m.addChosen());
                break;
            default:
                due("addDelta(" + reference + ")", x.addDelta(reference), m.addDelta(reference));
                break;
        }
    }

    private void changeFrames() {
        switch (roll(6)) {
            case 0:
                due("recode()", x.recode(), m.recode());
                break;
            case 1:
                setLimits(near(5), near(10), near(10));
                break;
            case 2:
                removeLast();
                break;
            default:
                setLost(near(m.frames.size()), near(2));
                break;
        }
    }

    private void setLimits(int range, int depth, int rate) {
        int want = -1;
        if (range >= 0 && range < 5 && depth >= 0 && depth < 10 && rate >= 0 && rate < 10) {
            m.save();
            want = range == m.range && depth == m.depth && rate == m.rate ? 0 : 1;
            m.range = range;
            m.depth = depth;
            m.rate = rate;
        }
        due("setLimits(" + range + ", " + depth + ", " + rate + ")", x.setLimits(range, depth, rate), want);
    }

    private void removeLast() {
        int want = -2;
        if (!m.frames.isEmpty()) {
            m.save();
            want = m.frames.size() - 1;
            m.frames.remove(want);
            m.lost.remove(want);
        }
        due("removeLast()", x.removeLast(), want);
    }

    private void setLost(int frame, int on) {
        int want = -1;
        if (frame >= 0 && frame < m.frames.size() && on >= 0 && on < 2) {
            want = -2;
            if (m.lost.get(frame) != (on == 1)) {
                m.save();
                m.lost.set(frame, on == 1);
                want = m.readables();
            }
        }
        due("setLost(" + frame + ", " + on + ")", x.setLost(frame, on), want);
    }

    /** -1 if there is no such frame, -2 if it cannot be decoded, otherwise 0. */
    private int state(int frame) {
        if (frame == -1) {
            return 0;
        }
        return frame < 0 || frame >= m.frames.size() ? -1 : m.readable(frame) ? 0 : -2;
    }

    private void askFrame(int f) {
        boolean is = f >= 0 && f < m.frames.size();
        int dependents = 0;
        for (int g = 0; g < m.frames.size(); g++) {
            dependents += m.chain(g).contains(f) ? 1 : 0;
        }
        due("dependents(" + f + ")", x.dependents(f), is ? dependents : -1);
        due("patch(" + f + ")", x.patch(f), !is ? -1 : m.lost.get(f) ? m.patch(f) : -2);
        if (!is) {
            due("frame(" + f + ", 0)", x.frame(f, 0), -1);
            due("code(" + f + ", 0, 0)", x.code(f, 0, 0), -1);
            due("run(" + f + ", 0, 0, 0)", x.run(f, 0, 0, 0), -1);
            due("pixel(" + f + ", 0)", x.pixel(f, 0), -1);
            return;
        }
        Model.Rec rec = m.frames.get(f);
        int[] wanted = {rec.reference() < 0 ? -9 : rec.reference(), rec.cost(), m.seek(f), m.chain(f).size() - 1,
            m.readable(f) ? 1 : 0, rec.ofKind(0), rec.ofKind(1), rec.ofKind(2), rec.ofKind(3)};
        for (int i = 0; i < 3; i++) {
            int what = roll(wanted.length);
            due("frame(" + f + ", " + what + ")", x.frame(f, what), wanted[what]);
        }
        askCode(f, roll(m.blocks()), rec);
        int cell = roll(m.width * m.height);
        due("pixel(" + f + ", " + cell + ")", x.pixel(f, cell),
                m.readable(f) ? m.image(f)[cell / m.width][cell % m.width] : -2);
    }

    private void askCode(int f, int b, Model.Rec rec) {
        Model.Code code = rec.codes().get(b);
        boolean moved = code.kind() == 1;
        int[] wanted = {code.kind(), moved ? code.dx() : -9, moved ? code.dy() : -9,
            code.kind() >= 2 ? code.runs().size() : -9};
        for (int part = roll(4); part < 4; part += 2) {
            due("code(" + f + ", " + b + ", " + part + ")", x.code(f, b, part), wanted[part]);
        }
        int run = roll(code.runs().size() + 1);
        for (int part = 0; part < 2; part++) {
            due("run(" + f + ", " + b + ", " + run + ", " + part + ")", x.run(f, b, run, part),
                    run < code.runs().size() ? code.runs().get(run)[part] : -9);
        }
    }

    private void ask() {
        int first = roll(m.frames.size() + 2) - 1;
        int second = near(m.frames.size());
        int state = state(first);
        int both = state == -1 || state(second) == -1 ? -1 : Math.min(state, state(second));
        switch (roll(7)) {
            case 0:
                due("costWith(" + first + ")", x.costWith(first), state < 0 ? state : m.coded(first).cost());
                break;
            case 1:
                due("difference(" + first + ", " + second + ")", x.difference(first, second),
                        both < 0 ? both : m.difference(m.image(first), m.image(second)));
                break;
            case 2:
                askFind(first, near(m.blocks()));
                break;
            case 3:
                due("falseMatches(" + first + ")", x.falseMatches(first),
                        state < 0 ? state : m.falseMatches(m.image(first)));
                break;
            case 4:
                askDigest(first, near(m.width - 3), near(m.height - 3));
                break;
            case 5:
                askPlan();
                break;
            default:
                askCounts();
                break;
        }
    }

    private void askFind(int frame, int block) {
        boolean wrong = frame < 0 || state(frame) == -1 || block < 0 || block >= m.blocks();
        int want = wrong ? -1 : state(frame) < 0 ? -2 : m.findBlock(frame, block);
        due("findBlock(" + frame + ", " + block + ")", x.findBlock(frame, block), want);
    }

    private void askDigest(int frame, int left, int top) {
        boolean inside = left >= 0 && left + 4 <= m.width && top >= 0 && top + 4 <= m.height;
        int want = !inside || state(frame) == -1 ? -1 : state(frame);
        due("digest(" + frame + ", " + left + ", " + top + ")", x.digest(frame, left, top),
                want < 0 ? want : m.digest(Model.part(m.image(frame), left, top)));
    }

    private void askPlan() {
        boolean none = m.frames.isEmpty();
        int[] best = none ? new int[] {-9, 0, -9} : m.bestPlan();
        due("planCost()", x.planCost(), best[0]);
        due("planKeys()", x.planKeys(), best[2]);
        int greatest = -9;
        for (int f = 0; f < m.frames.size(); f++) {
            greatest = Math.max(greatest, m.seek(f));
        }
        due("greatestSeek()", x.greatestSeek(), greatest);
    }

    private void askCounts() {
        int cost = m.frames.stream().mapToInt(Model.Rec::cost).sum();
        int[] wanted = {m.width, m.height, m.frames.size(), m.range, m.depth, m.rate, cost, m.readables(),
            m.text.length(), m.saved.size()};
        for (int i = 0; i < 5; i++) {
            int what = roll(wanted.length);
            due("count(" + what + ")", x.count(what), wanted[what]);
            int cell = roll(m.width * m.height);
            due("cell(" + cell + ")", x.cell(cell), m.canvas[cell / m.width][cell % m.width]);
        }
    }
}
