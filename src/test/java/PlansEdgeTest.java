import java.util.Random;

/** "Choice of key frames", sentence by sentence: the best plan of one to ten frames, recode() and what it leaves. */
public final class PlansEdgeTest {
    private static final Checker CHECKER = new Checker("PlansEdgeTest");

    public static void main(String[] args) {
        noFrames();
        firstRate();
        everyNumberOfFrames();
        ties();
        fewerBeforeSmaller();
        keysAreAskedFirst();
        frameZeroIsAKey();
        frameDirectlyBefore();
        restDoesNotMatter();
        presentRange();
        recodeIsThePlan();
        recodeOfTheBest();
        greatestSeeks();
        CHECKER.finish();
    }

    private static void due(String what, long got, long want) {
        CHECKER.due(what, got, want);
    }

    private static void noFrames() {
        Counted x = new Counted();
        due("planCost() of none", x.planCost(), -9);
        due("planKeys() of none", x.planKeys(), -9);
        due("greatestSeek() of none", x.greatestSeek(), -9);
        due("recode() of none", x.recode(), -2);
        due("recode() of none saves nothing", x.count(9), 0);
        x.addKey();
        due("planCost() of one", x.planCost(), 18);
        due("planKeys() of one", x.planKeys(), 1);
        due("greatestSeek() of one", x.greatestSeek(), 18);
        due("recode() of one", x.recode(), 18);
        due("it is saved", x.count(9), 2);
        x.removeLast();
        due("planCost() of none again", x.planCost(), -9);
        due("planKeys() of none again", x.planKeys(), -9);
        due("greatestSeek() of none again", x.greatestSeek(), -9);
        due("recode() of none again", x.recode(), -2);
    }

    /** "the rate is 0 to 9 (at first 0)" */
    private static void firstRate() {
        Counted x = Checker.sized(4, 4);
        due("the first rate", x.count(5), 0);
        x.addKey();
        due("with the first rate", x.planCost(), 6);
        for (int rate = 0; rate <= 9; rate++) {
            due("rate " + rate, x.setLimits(2, 4, rate), rate == 0 ? 0 : 1);
            due("with rate " + rate, x.planCost(), 6 + rate * 6);
        }
        due("rate 10", x.setLimits(2, 4, 10), -1);
        due("rate -1", x.setLimits(2, 4, -1), -1);
        due("with rate 9 still", x.planCost(), 60);
    }

    /** Frames of some cells' changes; the costs as key frames and as deltas to the frame before are noted. */
    private static Counted sequence(Random dice, int frames, int[] keys, int[] deltas) {
        Counted x = Checker.sized(4, 4);
        for (int f = 0; f < frames; f++) {
            for (int n = dice.nextInt(4); n > 0; n--) {
                x.setCell(dice.nextInt(16), dice.nextInt(16));
            }
            if (dice.nextInt(4) == 0) {
                int value = dice.nextInt(3);
                for (int cell = 0; cell < 16; cell++) {
                    x.setCell(cell, value);
                }
            }
            keys[f] = x.costWith(-1);
            deltas[f] = f == 0 ? 0 : x.costWith(f - 1);
            x.addKey();
        }
        return x;
    }

    private static void everyNumberOfFrames() {
        for (int seed = 0; seed < 300; seed++) {
            int frames = 1 + seed % 10;
            int[] keys = new int[frames];
            int[] deltas = new int[frames];
            Counted x = sequence(new Random(seed), frames, keys, deltas);
            for (int rate = 0; rate <= 9; rate++) {
                x.setLimits(2, 4, rate);
                int[] best = best(keys, deltas, rate);
                String what = " of " + frames + " frames, seed " + seed + ", rate " + rate;
                due("planKeys()" + what, x.planKeys(), best[2]);
                due("planCost()" + what, x.planCost(), best[0]);
            }
        }
    }

    /** Cost, number of key frames and set of the best plan; each frame's chain is followed back. */
    private static int[] best(int[] keys, int[] deltas, int rate) {
        int[] best = null;
        for (int set = (1 << keys.length) - 1; set > 0; set -= 2) {
            int sum = 0;
            int greatest = 0;
            for (int f = 0; f < keys.length; f++) {
                int seek = 0;
                int link = f;
                while ((set >> link & 1) == 0) {
                    seek += deltas[link];
                    link--;
                }
                greatest = Math.max(greatest, seek + keys[link]);
                sum += (set >> f & 1) == 1 ? keys[f] : deltas[f];
            }
            int[] mine = {sum + rate * greatest, Integer.bitCount(set), set};
            if (best == null || mine[0] < best[0] || mine[0] == best[0] && mine[1] <= best[1]) {
                best = mine;
            }
        }
        return best;
    }

    /** "of several the one with the fewest key frames, of several the one whose set is the smallest number" */
    private static void ties() {
        for (int frames = 1; frames <= 10; frames++) {
            Counted x = Checker.sized(4, 4);
            for (int f = 0; f < frames; f++) {
                Checker.draw(x, "fill " + f + ";");
                x.addKey();
            }
            due("all sets of " + frames + " cost the same", x.planKeys(), 1);
            due("and cost", x.planCost(), 6 * frames);
            x.setLimits(2, 4, 1);
            due("with a rate all are key frames", x.planKeys(), (1 << frames) - 1);
            due("and cost", x.planCost(), 6 * frames + 6);
        }
        Counted x = Checker.sized(4, 4);
        for (int f = 0; f < 4; f++) {
            x.addKey();
        }
        x.setLimits(2, 4, 1);
        // {0}: 15 + 15; {0, 2}: 18 + 9; {0, 1}, {0, 3}: 18 + 12; {0, 1, 2, 3}: 24 + 6
        due("the best of four", x.planCost(), 27);
        due("its keys", x.planKeys(), 5);
        x.addKey();
        // {0, 2}, {0, 3}: 21 + 12; {0, 1, 3}, {0, 2, 3}, {0, 2, 4}: 24 + 9; {0}: 18 + 18; all: 30 + 6
        due("the best of five", x.planCost(), 33);
        due("the fewest, of two the smaller", x.planKeys(), 5);
    }

    /** Sets of the same cost, of which the one with fewer key frames is the greater number. */
    private static void fewerBeforeSmaller() {
        String[] wide = {"box 0 0 4 4 2;", "", "box 6 1 1 1 1;", "box 4 0 1 1 2;box 0 0 4 4 1;", "", "", "box 0 0 4 4 0;"};
        // as key frames 10, 10, 14, 16, 16, 16, 16; as deltas 4, 11, 12, 4, 4, 7
        // {0, 3, 6}: 65 + 3 * 25, {0, 2, 3, 5}: 71 + 3 * 23
        fewest(8, wide, 3, 140, 1 + 8 + 64);
        String[] small = {"box 2 0 1 1 3;box 1 2 1 1 2;", "fill 2;", "", "box 0 0 1 1 3;box 2 0 1 1 0;", "box 2 1 1 1 0;",
            "box 0 0 1 1 0;", "fill 0;"};
        // as key frames 14, 6, 6, 12, 16, 16, 6; as deltas 6, 3, 12, 10, 8, 6
        // {0, 3, 6}: 59 + 30, {0, 1, 3, 5}: 67 + 22
        fewest(4, small, 1, 89, 1 + 8 + 64);
    }

    private static void fewest(int width, String[] texts, int rate, int cost, int keys) {
        Counted x = Checker.sized(width, 4);
        for (String text : texts) {
            Checker.draw(x, text);
            x.addKey();
        }
        x.setLimits(2, 4, rate);
        due("the fewest key frames, rate " + rate, x.planKeys(), keys);
        due("their cost, rate " + rate, x.planCost(), cost);
        due("recode(), rate " + rate, x.recode(), cost);
        for (int f = 0; f < texts.length; f++) {
            due("reference of frame " + f + ", rate " + rate, x.frame(f, 0), (keys >> f & 1) == 1 ? -9 : f - 1);
        }
    }

    /** No other question has been asked before, since the frames or the limits have changed. */
    private static void keysAreAskedFirst() {
        Counted x = Checker.sized(4, 4);
        x.addKey();
        x.addKey();
        x.setLimits(2, 4, 9);
        due("planKeys() at first", x.planKeys(), 3);
        x.setLimits(2, 4, 0);
        due("planKeys() with another rate", x.planKeys(), 1);
        x.setLimits(2, 4, 9);
        x.addKey();
        due("planKeys() with another frame", x.planKeys(), 7);
        x.removeLast();
        due("planKeys() without it", x.planKeys(), 3);
        x.undo();
        due("planKeys() after undo()", x.planKeys(), 7);
        Checker.draw(x, "box 0 0 1 1 3;");
        due("planKeys() after the canvas has changed", x.planKeys(), 7);
        x.setSize(4, 4);
        x.addKey();
        due("planKeys() of a new sequence", x.planKeys(), 1);
    }

    /** "a set of frames as key frames, frame 0 among them" */
    private static void frameZeroIsAKey() {
        Counted x = Checker.sized(4, 4, "1234", "1234", "1234", "1234");
        x.addKey();
        Checker.draw(x, "fill 0;");
        for (int f = 1; f < 10; f++) {
            x.addKey();
        }
        for (int rate = 0; rate <= 9; rate++) {
            x.setLimits(2, 4, rate);
            due("frame 0 is among the keys", x.planKeys() & 1, 1);
            due("nothing stands above frame 9", x.planKeys() >> 10, 0);
        }
    }

    /** "each other frame is coded with the frame directly before it as the reference", even if another one is better. */
    private static void frameDirectlyBefore() {
        Counted x = Checker.sized(4, 4, "1234", "1234", "1234", "1234");
        x.addKey();
        Checker.draw(x, "frame 0;box 0 0 1 1 9;box 2 2 1 1 9;");
        x.addKey();
        Checker.draw(x, "frame 0;");
        due("frame 2 would be kept of frame 0", x.addChosen(), 3);
        // from frame 1: 8, 15 zeros .. 10, .. : two runs of one and two of zeros
        due("the plan", x.planCost(), 36 + x.costWith(1) + 12);
        due("from frame 1", x.costWith(1), 2 + 2 + 8);
        due("recode()", x.recode(), 60);
        due("its reference", x.frame(2, 0), 1);
        due("its cost", x.frame(2, 1), 12);
    }

    /** "as if it was coded anew": present references, the depth limit, lost marks and the canvas are nothing to it. */
    private static void restDoesNotMatter() {
        int[] references = {-1, -1, 0, 2, 1, 4};
        for (int kind = 0; kind < 4; kind++) {
            Counted x = Checker.sized(4, 4, "1234", "1234", "1234", "1234");
            x.setLimits(2, 9, 3);
            for (int f = 0; f < 6; f++) {
                x.setCell(f * 5 % 16, 8 + f);
                if (kind == 1 && references[f] >= 0) {
                    x.addDelta(references[f]);
                } else {
                    x.addKey();
                }
            }
            if (kind == 2) {
                x.setLimits(2, 0, 3);
            }
            if (kind == 3) {
                x.setLost(2, 1);
                x.setLost(0, 1);
                Checker.draw(x, "fill 9;");
            }
            String what = ", kind " + kind;
            // key frames 0, 2 and 4; of the deltas, that of the last cell costs 8 and the others 10
            due("planCost()" + what, x.planCost(), 3 * 36 + 10 + 8 + 10 + 3 * 46);
            due("planKeys()" + what, x.planKeys(), 21);
            due("recode()" + what, x.recode(), 274);
            due("depth" + what, x.frame(5, 3), 1);
            due("reference" + what, x.frame(5, 0), 4);
            due("can be decoded" + what, x.count(7), 6);
        }
    }

    /** "with the present range" */
    private static void presentRange() {
        int[] costs = {4, 4, 3, 3, 3};
        for (int range = 0; range <= 4; range++) {
            Counted x = Checker.sized(12, 4);
            Checker.draw(x, "box 6 0 4 4 7;");
            x.setLimits(4 - range, 4, 0);
            x.addKey();
            Checker.draw(x, "fill 0;box 4 0 4 4 7;box 8 0 4 4 1;");
            x.addKey();
            x.setLimits(range, 4, 0);
            int cost = x.costWith(0);
            due("range " + range + ", the block", cost, 2 + 1 + costs[range] + 4);
            due("range " + range + ", planCost()", x.planCost(), x.frame(0, 1) + cost);
            due("range " + range + ", recode()", x.recode(), x.frame(0, 1) + cost);
            due("range " + range + ", the code", x.code(1, 1, 0), range >= 2 ? 1 : 3);
            due("range " + range + ", its dx", x.code(1, 1, 1), range >= 2 ? 2 : -9);
        }
    }

    private static void recodeIsThePlan() {
        for (int seed = 500; seed < 560; seed++) {
            int frames = 1 + seed % 10;
            int[] keys = new int[frames];
            int[] deltas = new int[frames];
            Counted x = sequence(new Random(seed), frames, keys, deltas);
            int rate = seed % 7;
            x.setLimits(2, seed % 10, rate);
            x.setLost(seed % frames, 1);
            int[] best = best(keys, deltas, rate);
            String what = ", seed " + seed;
            due("recode()" + what, x.recode(), best[0]);
            int sum = 0;
            int depth = 0;
            for (int f = 0; f < frames; f++) {
                boolean key = (best[2] >> f & 1) == 1;
                depth = key ? 0 : depth + 1;
                sum += key ? keys[f] : deltas[f];
                due("reference of frame " + f + what, x.frame(f, 0), key ? -9 : f - 1);
                due("cost of frame " + f + what, x.frame(f, 1), key ? keys[f] : deltas[f]);
                due("depth of frame " + f + what, x.frame(f, 3), depth);
                due("frame " + f + " can be decoded" + what, x.frame(f, 4), 1);
            }
            due("all costs" + what, x.count(6), sum);
            due("all costs and the rate" + what, x.count(6) + rate * x.greatestSeek(), best[0]);
            due("again" + what, x.recode(), best[0]);
        }
    }

    /** What is coded by the best plan stays so, images and canvas too. */
    private static void recodeOfTheBest() {
        Counted x = Checker.sized(4, 4, "1234", "1234");
        x.addKey();
        x.setCell(15, 3);
        x.addDelta(0);
        x.setCell(14, 3);
        due("recode()", x.recode(), 22 + 8);
        due("its answer", x.count(6), 30);
        due("frame 1's reference", x.frame(1, 0), 0);
        due("frame 1's code", x.code(1, 0, 0), 2);
        due("frame 1's run", x.run(1, 0, 1, 1), 3);
        due("frame 1's pixel", x.pixel(1, 15), 3);
        due("frame 0's pixel", x.pixel(0, 15), 0);
        due("the canvas", x.cell(14), 3);
        due("frames", x.count(2), 2);
    }

    /** "the greatest seek cost of all frames, lost ones included" */
    private static void greatestSeeks() {
        Counted x = Checker.sized(4, 4, "12");
        x.addKey();
        x.addDelta(0);
        due("the second", x.greatestSeek(), 10 + 3);
        x.setCell(2, 3);
        x.addKey();
        due("the second still", x.greatestSeek(), 13);
        x.setCell(4, 3);
        x.addKey();
        due("the last: a key frame of six runs", x.greatestSeek(), 2 + 2 + 12);
        x.setLost(3, 1);
        due("lost ones included", x.greatestSeek(), 16);
        x.removeLast();
        due("without it", x.greatestSeek(), 13);
        x.setLost(0, 1);
        due("all of the chain is lost", x.greatestSeek(), 13);
        x.setLost(1, 1);
        x.setLost(2, 1);
        due("all are lost", x.greatestSeek(), 13);
    }
}
