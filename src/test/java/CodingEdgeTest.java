import java.util.Random;

/** "Coding", sentence by sentence: the choice of codes and of moves, chains, depths, limits and the rule of choice. */
public final class CodingEdgeTest {
    private static final Checker CHECKER = new Checker("CodingEdgeTest");
    private static final int[] PLAIN = {1, 2, 3, 4, 1, 2, 3, 4, 1, 2, 3, 4, 1, 2, 3, 4};

    public static void main(String[] args) {
        deltaOrRaw();
        keepBeforeAll();
        moveBeforeRuns();
        everyCellOfAMove();
        rangeOfMoves();
        pairsOfMoves();
        movesLieInside(8, 8);
        movesLieInside(4, 4);
        movesLieInside(4, 8);
        depthsOfAChain();
        depthsOfATree();
        firstDepthLimit();
        everyDepthLimit();
        lowerDepthLimit();
        keyOrDelta();
        smallestCost();
        smallestDepth();
        greatestNumber();
        limitOfChoice();
        lostOnesAreNotChosen();
        costWithIsTheCost();
        CHECKER.finish();
    }

    private static void due(String what, long got, long want) {
        CHECKER.due(what, got, want);
    }

    /** "the one with the smallest cost; of several, the first one in the order keep, move, delta, raw" */
    private static void deltaOrRaw() {
        for (int raw = 1; raw <= 16; raw++) {
            for (int delta = 1; delta <= 16; delta++) {
                int[] after = RecordsEdgeTest.inRuns(raw, 1, 2, 3);
                int[] added = RecordsEdgeTest.inRuns(delta, 4, 9, 15);
                int[] before = new int[16];
                for (int i = 0; i < 16; i++) {
                    before[i] = (after[i] - added[i] + 16) % 16;
                }
                Counted x = Checker.sized(4, 4);
                Checker.paint(x, before);
                x.addKey();
                Checker.paint(x, after);
                String what = "raw of " + raw + " and delta of " + delta + " runs: ";
                int cost = 2 + 2 + 2 * Math.min(raw, delta);
                due(what + "as a key frame", x.costWith(-1), 4 + 2 * raw);
                due(what + "cost", x.addDelta(0), cost);
                due(what + "the record's cost", x.frame(1, 1), cost);
                due(what + "kind", x.code(1, 0, 0), delta <= raw ? 2 : 3);
                due(what + "runs", x.code(1, 0, 3), Math.min(raw, delta));
                due(what + "first value", x.run(1, 0, 0, 1), delta <= raw ? added[0] : after[0]);
            }
        }
    }

    /** An even image: each block could be kept, moved in all ways, or be one run. */
    private static void keepBeforeAll() {
        Counted x = Checker.sized(12, 12);
        Checker.draw(x, "fill 7;");
        x.setLimits(4, 4, 0);
        x.addKey();
        due("keep before move, delta and raw", x.addDelta(0), 2 + 9);
        due("keep codes", x.frame(1, 5), 9);
        due("dx of a keep", x.code(1, 4, 1), -9);
        due("dy of a keep", x.code(1, 4, 2), -9);
    }

    /** A move costs 3, the shortest run list 4. */
    private static void moveBeforeRuns() {
        Counted x = Checker.sized(8, 4, "01234567", "01234567", "01234567", "01234567");
        x.addKey();
        Checker.draw(x, "shift -1 0;");
        due("move before a delta of one run", x.addDelta(0), 2 + 3 + 2 + 2 * 8);
        due("the left block is moved", x.code(1, 0, 0), 1);
        due("its dx", x.code(1, 0, 1), 1);
        due("the right one's delta", x.code(1, 1, 0), 2);
        x = Checker.sized(8, 4);
        Checker.draw(x, "box 1 0 4 4 9;");
        x.addKey();
        Checker.draw(x, "box 0 0 4 4 9;");
        due("move before raw of one run", x.addDelta(0), 2 + 3 + 1);
        due("its dx", x.code(1, 0, 1), 1);
        x.setLimits(0, 4, 0);
        due("without moves raw of one run", x.addDelta(0), 2 + 4 + 1);
        due("it is raw", x.code(2, 0, 0), 3);
    }

    /** A part that is unlike in just one of its 16 cells is none. */
    private static void everyCellOfAMove() {
        for (int unlike = -1; unlike < 16; unlike++) {
            Counted x = Checker.sized(8, 8);
            int[] picture = new int[64];
            for (int i = 0; i < 16; i++) {
                picture[(2 + i / 4) * 8 + 3 + i % 4] = i;
            }
            if (unlike >= 0) {
                picture[(2 + unlike / 4) * 8 + 3 + unlike % 4] ^= 8;
            }
            Checker.paint(x, picture);
            x.setLimits(3, 4, 0);
            x.addKey();
            x.setSize(8, 8);
            x.undo();
            Checker.draw(x, "fill 0;");
            for (int i = 0; i < 16; i++) {
                x.setCell(i / 4 * 8 + i % 4, i);
            }
            x.addDelta(0);
            due("a move with cell " + unlike + " unlike", x.code(1, 0, 0) == 1 ? 1 : 0, unlike < 0 ? 1 : 0);
            due("findBlock with cell " + unlike + " unlike", x.findBlock(0, 0), unlike < 0 ? 302 : -9);
        }
    }

    /** An even block of 7 in the middle of 12 by 12 cells, and in the reference just one that lies elsewhere. */
    private static Counted evenBlocks(String boxes, int range) {
        Counted x = Checker.sized(12, 12);
        x.setLimits(range, 4, 0);
        Checker.draw(x, boxes);
        x.addKey();
        Checker.draw(x, "fill 0;box 4 4 4 4 7;");
        x.addDelta(0);
        return x;
    }

    private static String boxAt(int dx, int dy) {
        return "box " + (4 + dx) + " " + (4 + dy) + " 4 4 7;";
    }

    /** "its dx and dy are within the range, and not both 0"; "The range is 0 to 4". */
    private static void rangeOfMoves() {
        for (int range = 0; range <= 4; range++) {
            for (int dy = -4; dy <= 4; dy++) {
                for (int dx = -4; dx <= 4; dx++) {
                    Counted x = evenBlocks(boxAt(dx, dy), range);
                    String what = "range " + range + ", the part at " + dx + ", " + dy + ": ";
                    boolean here = dx == 0 && dy == 0;
                    boolean near = !here && Math.max(Math.abs(dx), Math.abs(dy)) <= range;
                    boolean apart = Math.max(Math.abs(dx), Math.abs(dy)) == 4;
                    due(what + "kind", x.code(1, 4, 0), here ? 0 : near ? 1 : apart ? 2 : 3);
                    due(what + "dx", x.code(1, 4, 1), near ? dx : -9);
                    due(what + "dy", x.code(1, 4, 2), near ? dy : -9);
                    due(what + "runs", x.code(1, 4, 3), here || near ? -9 : 1);
                }
            }
        }
        due("the first range is 2", new Counted().count(3), 2);
        Counted x = new Counted();
        due("range 5", x.setLimits(5, 4, 0), -1);
        due("range -1", x.setLimits(-1, 4, 0), -1);
        due("range 4", x.setLimits(4, 4, 0), 1);
        due("range 0", x.setLimits(0, 4, 0), 1);
    }

    /** "the one with the smallest sum of the absolute values of dx and dy, of several the one with the smallest dy, .." */
    private static void pairsOfMoves() {
        for (int one = 0; one < 81; one++) {
            for (int two = one + 1; two < 81; two++) {
                int[][] at = {{one % 9 - 4, one / 9 - 4}, {two % 9 - 4, two / 9 - 4}};
                Counted x = evenBlocks(boxAt(at[0][0], at[0][1]) + boxAt(at[1][0], at[1][1]), 4);
                int[] best = bestOfAll(at);
                String what = "parts at " + at[0][0] + ", " + at[0][1] + " and " + at[1][0] + ", " + at[1][1] + ": ";
                due(what + "kind", x.code(1, 4, 0), best[0] == 0 && best[1] == 0 ? 0 : 1);
                due(what + "dx", x.code(1, 4, 1), best[0] == 0 && best[1] == 0 ? -9 : best[0]);
                due(what + "dy", x.code(1, 4, 2), best[0] == 0 && best[1] == 0 ? -9 : best[1]);
            }
        }
    }

    /** All ways to a part that the two areas cover together, in the order of the document. */
    private static int[] bestOfAll(int[][] at) {
        for (int sum = 0; sum <= 8; sum++) {
            for (int dy = -4; dy <= 4; dy++) {
                for (int dx = -4; dx <= 4; dx++) {
                    if (Math.abs(dx) + Math.abs(dy) == sum && isCovered(at, dx, dy)) {
                        return new int[] {dx, dy};
                    }
                }
            }
        }
        return new int[2];
    }

    private static boolean isCovered(int[][] at, int dx, int dy) {
        for (int i = 0; i < 16; i++) {
            boolean covered = false;
            for (int[] area : at) {
                int x = dx + i % 4 - area[0];
                int y = dy + i / 4 - area[1];
                covered |= x >= 0 && x < 4 && y >= 0 && y < 4;
            }
            if (!covered) {
                return false;
            }
        }
        return true;
    }

    /** "A move lies wholly in the reference": not if zeros, the edge's cells or those of the other side stood outside. */
    private static void movesLieInside(int width, int height) {
        Random dice = new Random(17);
        int[] image = new int[width * height];
        for (int i = 0; i < image.length; i++) {
            image[i] = dice.nextInt(16);
        }
        for (int block = 0; block < width * height / 16; block++) {
            int left = 4 * (block % (width / 4));
            int top = 4 * (block / (width / 4));
            for (int way = 0; way < 81; way++) {
                int x = left + way % 9 - 4;
                int y = top + way / 9 - 4;
                for (int fill = 0; fill < 4; fill++) {
                    int[] canvas = image.clone();
                    for (int i = 0; i < 16; i++) {
                        canvas[(top + i / 4) * width + left + i % 4] = outside(image, width, x + i % 4, y + i / 4, fill);
                    }
                    insideOnly(image, canvas, new int[] {width, height, left, top});
                }
            }
        }
    }

    /** What one could take a cell outside of the image for; inside it is the cell. */
    private static int outside(int[] image, int width, int x, int y, int fill) {
        int height = image.length / width;
        int clampedX = Math.max(0, Math.min(width - 1, x));
        int clampedY = Math.max(0, Math.min(height - 1, y));
        int number = y * width + x;
        switch (fill) {
            case 0:
                return clampedX == x && clampedY == y ? image[number] : 0;
            case 1:
                return image[clampedY * width + clampedX];
            case 2:
                return image[Math.floorMod(y, height) * width + Math.floorMod(x, width)];
            default:
                return number >= 0 && number < image.length ? image[number] : 0;
        }
    }

    /** The block is at some ways from its place in the reference, or nowhere. */
    private static void insideOnly(int[] image, int[] canvas, int[] place) {
        int width = place[0];
        boolean here = false;
        boolean anywhere = false;
        for (int y = 0; y + 4 <= place[1]; y++) {
            for (int x = 0; x + 4 <= width; x++) {
                boolean same = true;
                for (int i = 0; i < 16; i++) {
                    same &= image[(y + i / 4) * width + x + i % 4]
                            == canvas[(place[3] + i / 4) * width + place[2] + i % 4];
                }
                anywhere |= same;
                here |= same && x == place[2] && y == place[3];
            }
        }
        Counted x = Checker.sized(width, place[1]);
        x.setLimits(4, 4, 0);
        Checker.paint(x, image);
        x.addKey();
        Checker.paint(x, canvas);
        x.addDelta(0);
        int block = place[3] / 4 * (width / 4) + place[2] / 4;
        String what = "block " + block + " of " + width + " by " + place[1];
        due(what + " is kept or moved", x.code(1, block, 0) <= 1 ? 1 : 0, anywhere ? 1 : 0);
        due(what + " is kept", x.code(1, block, 0) == 0 ? 1 : 0, here ? 1 : 0);
        CHECKER.holds(what + " is found", anywhere == x.findBlock(0, block) >= 0);
    }

    /** "the number of references in its chain (0 for a key frame)"; the seek cost is "the sum of the costs". */
    private static void depthsOfAChain() {
        Counted x = Checker.sized(4, 4);
        x.setLimits(2, 9, 0);
        int seek = 0;
        for (int f = 0; f < 10; f++) {
            x.setCell(15, f);
            int cost = f == 0 ? x.addKey() : x.addDelta(f - 1);
            seek += cost;
            due("cost of frame " + f, cost, f == 0 ? 6 : 8);
            due("seek cost of frame " + f, x.frame(f, 2), seek);
            due("depth of frame " + f, x.frame(f, 3), f);
            due("reference of frame " + f, x.frame(f, 0), f == 0 ? -9 : f - 1);
            due("the greatest seek cost", x.greatestSeek(), seek);
        }
        for (int f = 0; f < 10; f++) {
            due("the last pixel of frame " + f, x.pixel(f, 15), f);
            due("its first pixel", x.pixel(f, 0), 0);
        }
    }

    /** Depths that are no numbers: references 0, 1 and 2 of frames 3, 2 and 4, and key frames among them. */
    private static void depthsOfATree() {
        Counted x = Checker.sized(4, 4);
        int[] references = {-9, -9, 1, 0, 2, 4, -9, 4, 3};
        int[] depths = {0, 0, 1, 1, 2, 3, 0, 3, 2};
        int[] seeks = {6, 6, 9, 9, 12, 15, 6, 15, 12};
        for (int f = 0; f < references.length; f++) {
            due("cost of frame " + f, references[f] < 0 ? x.addKey() : x.addDelta(references[f]), references[f] < 0 ? 6 : 3);
        }
        for (int f = 0; f < references.length; f++) {
            due("reference of frame " + f, x.frame(f, 0), references[f]);
            due("depth of frame " + f, x.frame(f, 3), depths[f]);
            due("seek cost of frame " + f, x.frame(f, 2), seeks[f]);
        }
        for (int limit = 0; limit <= 5; limit++) {
            x.setLimits(2, limit, 0);
            for (int f = 0; f < references.length; f++) {
                int answer = x.addDelta(f);
                due("limit " + limit + ", reference " + f, answer, depths[f] < limit ? 3 : -2);
                if (answer > 0) {
                    x.undo();
                }
            }
        }
    }

    /** "The depth limit is 0 to 9 (at first 4)." */
    private static void firstDepthLimit() {
        Counted x = Checker.sized(4, 4);
        due("the first depth limit", x.count(4), 4);
        x.addKey();
        for (int f = 1; f <= 4; f++) {
            due("depth " + f, x.addDelta(f - 1), 3);
        }
        due("depth 5", x.addDelta(4), -2);
        due("depth limit 10", x.setLimits(2, 10, 0), -1);
        due("depth limit -1", x.setLimits(2, -1, 0), -1);
        due("depth 5 still", x.addDelta(4), -2);
        due("depth limit 5", x.setLimits(2, 5, 0), 1);
        due("depth 5", x.addDelta(4), 3);
        due("depth 6", x.addDelta(5), -2);
    }

    private static void everyDepthLimit() {
        for (int limit = 0; limit <= 9; limit++) {
            Counted x = Checker.sized(4, 4);
            x.setLimits(2, limit, 0);
            x.addKey();
            for (int f = 1; f <= limit; f++) {
                due("limit " + limit + ", depth " + f, x.addDelta(f - 1), 3);
            }
            due("limit " + limit + ", one deeper", x.addDelta(limit), -2);
            due("limit " + limit + ", frames", x.count(2), limit + 1);
            int room = limit == 9 ? -3 : limit == 0 ? 6 : 3;
            due("limit " + limit + ", by choice", x.addChosen(), room);
        }
    }

    /** A lower limit leaves the frames as they are; it counts for what is added. */
    private static void lowerDepthLimit() {
        for (int limit = 0; limit <= 9; limit++) {
            Counted x = Checker.sized(4, 4);
            x.setLimits(2, 9, 0);
            x.addKey();
            for (int f = 1; f < 9; f++) {
                x.addDelta(f - 1);
            }
            x.setLimits(2, limit, 0);
            due("limit " + limit + ", the deepest frame", x.frame(8, 3), 8);
            due("limit " + limit + ", it can be decoded", x.frame(8, 4), 1);
            for (int f = 0; f < 9; f++) {
                int answer = x.addDelta(f);
                due("limit " + limit + ", reference " + f, answer, f < limit ? 3 : -2);
                due("limit " + limit + ", costWith(" + f + ")", x.costWith(f), 3);
                if (answer > 0) {
                    x.undo();
                }
            }
        }
    }

    /** "the record with the smallest cost is taken, of several the one with the smallest depth": a key frame has 0. */
    private static void keyOrDelta() {
        for (int value = 1; value <= 15; value++) {
            Counted x = Checker.sized(4, 4);
            due("the first frame", x.addChosen(), 6);
            Checker.draw(x, "fill " + value + ";");
            due("delta and key frame cost 6", x.addChosen(), 6);
            due("so a key frame", x.frame(1, 0), -9);
            due("which is raw", x.code(1, 0, 0), 3);
        }
        for (int runs = 2; runs <= 16; runs++) {
            Counted x = Checker.sized(4, 4);
            x.addKey();
            Checker.paint(x, RecordsEdgeTest.inRuns(runs, 1, 2, 3));
            due("over zeros delta and key frame cost the same", x.addChosen(), 4 + 2 * runs);
            due("so a key frame", x.frame(1, 0), -9);
            due("the record's cost", x.frame(1, 1), 4 + 2 * runs);
        }
    }

    /** Frames whose images are PLAIN with some cells set to 9: a row of numbers of cells for each, after its reference. */
    private static Counted frames(int[]... plans) {
        Counted x = Checker.sized(4, 4);
        x.setLimits(2, 9, 0);
        for (int[] plan : plans) {
            canvas(x, plan);
            if (plan[0] < 0) {
                x.addKey();
            } else {
                x.addDelta(plan[0]);
            }
        }
        return x;
    }

    private static void canvas(Counted x, int... plan) {
        int[] cells = PLAIN.clone();
        for (int i = 1; i < plan.length; i++) {
            cells[plan[i]] = 9;
        }
        Checker.paint(x, cells);
    }

    private static void chosen(String what, Counted x, int cost, int reference, int depth) {
        int frame = x.count(2);
        due(what + ", cost", x.addChosen(), cost);
        due(what + ", reference", x.frame(frame, 0), reference);
        due(what + ", depth", x.frame(frame, 3), depth);
        due(what + ", the record's cost", x.frame(frame, 1), cost);
    }

    private static void smallestCost() {
        Counted x = frames(new int[] {-1}, new int[] {0, 0}, new int[] {1, 0, 2}, new int[] {-1, 5, 10});
        canvas(x, -1, 0, 2, 15);
        chosen("cheap and deep before dear and shallow", x, 8, 2, 3);
        canvas(x, -1, 0, 2, 15);
        chosen("kept", x, 3, 4, 4);
        canvas(x, -1, 5, 10);
        chosen("kept of a key frame", x, 3, 3, 1);
        canvas(x, -1, 0);
        chosen("kept of frame 1", x, 3, 1, 2);
    }

    private static void smallestDepth() {
        int[] deep = {0, 0};
        int[] key = {-1, 0};
        Counted x = frames(new int[] {-1}, deep, key);
        canvas(x, key);
        chosen("the shallower one behind the deeper", x, 3, 2, 1);
        x = frames(key, new int[] {-1}, new int[] {1, 0});
        canvas(x, key);
        chosen("the shallower one before the deeper", x, 3, 0, 1);
        x = frames(new int[] {-1}, deep, new int[] {1, 0}, new int[] {2, 0});
        canvas(x, key);
        chosen("the least deep of three", x, 3, 1, 2);
        x = frames(new int[] {-1}, new int[] {0}, new int[] {1, 0}, deep);
        canvas(x, key);
        chosen("depth 1 behind depth 2", x, 3, 3, 2);
    }

    private static void greatestNumber() {
        Counted x = frames(new int[] {-1}, new int[] {0, 0}, new int[] {0, 0}, new int[] {-1});
        canvas(x, -1, 0);
        chosen("of the same depth the greatest number", x, 3, 2, 2);
        x = frames(new int[] {-1, 0}, new int[] {-1, 0}, new int[] {-1, 0}, new int[] {0, 0}, new int[] {-1});
        canvas(x, -1, 0);
        chosen("of three key frames the last", x, 3, 2, 1);
        x = frames(new int[] {-1}, new int[] {-1, 15});
        canvas(x, -1, 0);
        chosen("the cheaper one, whatever its number", x, 8, 0, 1);
        x = frames(new int[] {-1}, new int[] {-1});
        canvas(x, -1, 0);
        chosen("the same cost and depth as deltas", x, 8, 1, 1);
    }

    /** "each frame as the reference whose depth is less than the depth limit" */
    private static void limitOfChoice() {
        int[] wanted = {-9, 0, 1, 2, 3, 4, 4, 4, 4, 4};
        for (int limit = 0; limit <= 9; limit++) {
            Counted x = frames(new int[] {-1}, new int[] {0, 1}, new int[] {1, 1, 4}, new int[] {2, 1, 4, 7},
                    new int[] {3, 1, 4, 7, 10});
            x.setLimits(2, limit, 0);
            canvas(x, -1, 1, 4, 7, 10, 13);
            due("limit " + limit + ", the cost of its reference alone", x.costWith(Math.max(wanted[limit], -1)),
                    x.addChosen());
            due("limit " + limit + ", reference", x.frame(5, 0), wanted[limit]);
            due("limit " + limit + ", depth", x.frame(5, 3), wanted[limit] + 1 > 0 ? wanted[limit] + 1 : 0);
        }
    }

    /** "frames that cannot be decoded are no references" */
    private static void lostOnesAreNotChosen() {
        Counted x = frames(new int[] {-1}, new int[] {0, 0}, new int[] {0, 0}, new int[] {-1, 15});
        canvas(x, -1, 0);
        x.setLost(2, 1);
        chosen("frame 2 is lost", x, 3, 1, 2);
        x.removeLast();
        x.setLost(1, 1);
        chosen("frame 1 is lost too", x, 8, 0, 1);
        x.removeLast();
        x.setLost(1, 0);
        x.setLost(2, 0);
        x.setLost(0, 1);
        int cost = x.costWith(3);
        chosen("1 and 2 are not lost, but cannot be decoded", x, cost, 3, 1);
        x.removeLast();
        x.setLost(3, 1);
        chosen("nothing can be decoded", x, x.costWith(-1), -9, 0);
        chosen("but the new key frame can", x, 3, 4, 1);
    }

    /** costWith answers what the adding answers then, also where adding is not possible. */
    private static void costWithIsTheCost() {
        Counted x = frames(new int[] {-1}, new int[] {0, 3}, new int[] {1, 3, 8});
        canvas(x, -1, 2, 3, 9, 11);
        for (int f = 0; f < 3; f++) {
            due("costWith(" + f + ")", x.costWith(f), x.addDelta(f));
            x.undo();
        }
        due("costWith(-1)", x.costWith(-1), x.addKey());
        for (int f = 4; f < 10; f++) {
            x.addKey();
        }
        due("costWith(-1) with ten frames", x.costWith(-1), x.frame(9, 1));
        due("costWith(9) with ten frames", x.costWith(9), 3);
        due("costWith(10) with ten frames", x.costWith(10), -1);
        due("costWith(-2) with ten frames", x.costWith(-2), -1);
        x.setLimits(2, 0, 0);
        due("costWith(2) with depth limit 0", x.costWith(9), 3);
        x.setLost(1, 1);
        due("costWith(1), which is lost", x.costWith(1), -2);
        due("costWith(2), whose reference is lost", x.costWith(2), -2);
        CHECKER.holds("costWith(0), whose dependents are lost", x.costWith(0) > 0);
    }
}
