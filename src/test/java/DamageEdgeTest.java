import java.util.Random;

/** "Damage", sentence by sentence: lost records, what can be decoded, dependents and the best patch; promises 15, 22, 26, 27. */
public final class DamageEdgeTest {
    private static final Checker CHECKER = new Checker("DamageEdgeTest");

    public static void main(String[] args) {
        onceAndAgain();
        everyLinkOfAChain();
        severalLinks();
        branches();
        whatNeedsAnImage();
        dependentsByTrial();
        patchIsForLostOnes();
        patchOfAnyDistance();
        patchOfEqualOnes();
        patchByTrial();
        addedToDamage();
        lostAndRecoded();
        differences();
        CHECKER.finish();
    }

    private static void due(String what, long got, long want) {
        CHECKER.due(what, got, want);
    }

    private static Counted chain(int frames) {
        Counted x = Checker.sized(4, 4);
        x.setLimits(2, 9, 0);
        x.addKey();
        for (int f = 1; f < frames; f++) {
            x.setCell(0, f);
            x.addDelta(f - 1);
        }
        return x;
    }

    /** "ILLEGAL_STATE if it is so already"; "on: 1 for lost, 0 for not lost". */
    private static void onceAndAgain() {
        Counted x = chain(1);
        int saved = x.count(9);
        due("not lost, and not lost", x.setLost(0, 0), -2);
        due("lost", x.setLost(0, 1), 0);
        due("lost, and lost", x.setLost(0, 1), -2);
        due("on 2", x.setLost(0, 2), -1);
        due("on -1", x.setLost(0, -1), -1);
        due("not lost again", x.setLost(0, 0), 1);
        due("not lost, and not lost", x.setLost(0, 0), -2);
        due("two of them are saved", x.count(9), saved + 2);
    }

    /** "A frame can be decoded if no record of its chain is lost." */
    private static void everyLinkOfAChain() {
        for (int lost = 0; lost < 10; lost++) {
            Counted x = chain(10);
            due("dependents(" + lost + ") of ten", x.dependents(lost), 10 - lost);
            due("frames before " + lost, x.setLost(lost, 1), lost);
            due("count(7)", x.count(7), lost);
            for (int f = 0; f < 10; f++) {
                due("frame " + f + " with " + lost + " lost", x.frame(f, 4), f < lost ? 1 : 0);
                due("pixel of frame " + f, x.pixel(f, 0), f < lost ? f : -2);
                due("dependents(" + f + ") with " + lost + " lost", x.dependents(f), 10 - f);
            }
            due("all again", x.setLost(lost, 0), 10);
        }
    }

    private static void severalLinks() {
        Counted x = chain(6);
        due("5", x.setLost(5, 1), 5);
        due("2", x.setLost(2, 1), 2);
        due("4, behind 2", x.setLost(4, 1), 2);
        due("2 again: 4 and 5 stay lost", x.setLost(2, 0), 4);
        due("5 again: behind 4", x.setLost(5, 0), 4);
        due("4 again", x.setLost(4, 0), 6);
        for (int f = 0; f < 6; f++) {
            due("one more", x.setLost(f, 1), 0);
        }
        due("the last alone is found again", x.setLost(5, 0), 0);
        due("the first alone is found again", x.setLost(0, 0), 1);
    }

    private static void branches() {
        Counted x = Checker.sized(4, 4);
        x.addKey();
        x.addDelta(0);
        x.addDelta(0);
        x.addDelta(1);
        x.addKey();
        x.addDelta(4);
        x.addDelta(2);
        int[] dependents = {5, 2, 2, 1, 2, 1, 1};
        for (int f = 0; f < 7; f++) {
            due("dependents(" + f + ")", x.dependents(f), dependents[f]);
            due("the others", x.setLost(f, 1), 7 - dependents[f]);
            x.setLost(f, 0);
        }
        due("dependents(7)", x.dependents(7), -1);
        due("dependents(-1)", x.dependents(-1), -1);
    }

    /** Each method that asks for "a frame that can be decoded", with one that is lost and one behind it. */
    private static void whatNeedsAnImage() {
        Counted x = chain(3);
        x.addKey();
        x.setLost(1, 1);
        for (int f = 0; f < 4; f++) {
            boolean fine = f == 0 || f == 3;
            due("digest(" + f + ")", Math.min(x.digest(f, 0, 0), 0), fine ? 0 : -2);
            due("pixel(" + f + ")", x.pixel(f, 15), fine ? 0 : -2);
            due("costWith(" + f + ")", x.costWith(f), fine ? f == 3 ? 3 : 8 : -2);
            due("difference(" + f + ", -1)", x.difference(f, -1), fine ? f == 3 ? 0 : 1 : -2);
            due("difference(-1, " + f + ")", x.difference(-1, f), fine ? f == 3 ? 0 : 1 : -2);
            due("difference(" + f + ", " + f + ")", x.difference(f, f), fine ? 0 : -2);
            due("difference(3, " + f + ")", x.difference(3, f), fine ? f == 3 ? 0 : 1 : -2);
            due("findBlock(" + f + ")", x.findBlock(f, 0), fine ? f == 3 ? 0 : -9 : -2);
            due("falseMatches(" + f + ")", x.falseMatches(f), fine ? 0 : -2);
            due("draw() of frame " + f, Checker.draw(x, "frame " + f + ";frame 3;"), fine ? 2 : -16);
            int answer = x.addDelta(f);
            due("addDelta(" + f + ")", answer, fine ? f == 3 ? 3 : 8 : -2);
            if (answer > 0) {
                x.removeLast();
            }
        }
        x.setLost(0, 1);
        x.setLost(3, 1);
        due("the canvas is never lost: digest", Math.min(x.digest(-1, 0, 0), 0), 0);
        due("the canvas is never lost: costWith", x.costWith(-1), 8);
        due("the canvas is never lost: difference", x.difference(-1, -1), 0);
        due("the canvas is never lost: falseMatches", x.falseMatches(-1), 0);
        due("the canvas is never lost: addKey", x.addKey(), 8);
        due("the new frame can be decoded", x.count(7), 1);
    }

    private static Counted damaged(Random dice, int frames) {
        Counted x = Checker.sized(4, 4);
        x.setLimits(2, 9, 0);
        for (int f = 0; f < frames; f++) {
            for (int i = 0; i < 3; i++) {
                x.setCell(dice.nextInt(16), dice.nextInt(3));
            }
            if (f == 0 || dice.nextInt(4) == 0) {
                x.addKey();
            } else {
                x.addDelta(dice.nextInt(f));
            }
        }
        return x;
    }

    /** "Counts the frames that could not be decoded if the record [..] was lost (and those that are lost by now were not)" */
    private static void dependentsByTrial() {
        for (int seed = 0; seed < 60; seed++) {
            int frames = 1 + seed % 10;
            Counted x = damaged(new Random(seed), frames);
            for (int f = 0; f < frames; f++) {
                int before = x.dependents(f);
                due("dependents by trial", before, frames - x.setLost(f, 1));
                due("dependents of the lost one", x.dependents(f), before);
                x.undo();
            }
            int[] alone = new int[frames];
            for (int f = 0; f < frames; f++) {
                alone[f] = x.dependents(f);
            }
            for (int f = 0; f < frames; f++) {
                x.setLost(f, 1);
            }
            for (int f = 0; f < frames; f++) {
                due("dependents with all lost", x.dependents(f), alone[f]);
            }
        }
    }

    /** "ILLEGAL_STATE if its record is not lost; NONE if no frame can be decoded" */
    private static void patchIsForLostOnes() {
        Counted x = chain(3);
        for (int f = 0; f < 3; f++) {
            due("patch(" + f + ") of one that is not lost", x.patch(f), -2);
        }
        due("patch(3)", x.patch(3), -1);
        due("patch(-1)", x.patch(-1), -1);
        x.setLost(1, 1);
        due("patch(1)", x.patch(1), 0);
        due("patch(2), which cannot be decoded but is not lost", x.patch(2), -2);
        due("patch(0)", x.patch(0), -2);
        x.setLost(2, 1);
        due("patch(2)", x.patch(2), 0);
        x.setLost(1, 0);
        due("patch(2) of a lost one again", x.patch(2), 0);
        due("patch(1), found again", x.patch(1), -2);
        x.setLost(0, 1);
        due("patch(0) without any", x.patch(0), -9);
        due("patch(2) without any", x.patch(2), -9);
        due("patch(1) without any, but not lost", x.patch(1), -2);
        x.addKey();
        due("patch(0) by a later frame", x.patch(0), 3);
        due("patch(2) by a later frame", x.patch(2), 3);
        x.setLost(3, 1);
        due("patch(3), none", x.patch(3), -9);
    }

    /** The frame that differs in no cell, and the one that differs in all of the 144. */
    private static void patchOfAnyDistance() {
        Counted x = Checker.sized(12, 12);
        x.addKey();
        Checker.draw(x, "fill 1;");
        x.addKey();
        Checker.draw(x, "box 11 11 1 1 0;");
        x.addKey();
        x.addKey();
        x.setLost(1, 1);
        due("143 cells are alike", x.patch(1), 2);
        x.setLost(2, 1);
        due("the same again", x.patch(1), 3);
        due("no cell differs", x.patch(2), 3);
        x.setLost(3, 1);
        due("all cells differ", x.patch(1), 0);
        due("143 cells differ", x.patch(3), 0);
        due("all cells differ", x.difference(0, -1), 143);
        x.setLost(0, 1);
        due("none", x.patch(1), -9);
    }

    /** "of several the one with the smallest number" */
    private static void patchOfEqualOnes() {
        Counted x = Checker.sized(4, 4);
        for (int f = 0; f < 10; f++) {
            Checker.draw(x, "fill 0;box " + f % 4 + " " + f / 4 + " 1 1 5;");
            x.addKey();
        }
        for (int f = 0; f < 10; f++) {
            x.setLost(f, 1);
            due("patch(" + f + ") of nine that differ in two cells", x.patch(f), f == 0 ? 1 : 0);
            x.setLost(f, 0);
        }
        for (int f = 0; f < 9; f++) {
            x.setLost(f, 1);
            due("patch(0) by the first that is left", x.patch(0), f + 1);
            due("patch(" + f + ") by the first that is left", x.patch(f), f + 1);
        }
    }

    private static void patchByTrial() {
        for (int seed = 100; seed < 200; seed++) {
            int frames = 2 + seed % 9;
            Counted x = damaged(new Random(seed), frames);
            int[][] images = new int[frames][16];
            for (int f = 0; f < frames; f++) {
                for (int cell = 0; cell < 16; cell++) {
                    images[f][cell] = x.pixel(f, cell);
                }
            }
            Random dice = new Random(seed + 1000);
            for (int f = 0; f < frames; f++) {
                if (dice.nextInt(3) == 0) {
                    x.setLost(f, 1);
                }
            }
            for (int f = 0; f < frames && x.setLost(f, 1) != -1; f++) {
                due("patch by trial", x.patch(f), bestPatch(x, images, f));
            }
        }
    }

    private static int bestPatch(Counted x, int[][] images, int lost) {
        int best = -9;
        int least = 17;
        for (int f = images.length - 1; f >= 0; f--) {
            int unlike = 0;
            for (int cell = 0; cell < 16; cell++) {
                unlike += images[f][cell] == images[lost][cell] ? 0 : 1;
            }
            if (x.frame(f, 4) == 1 && unlike <= least) {
                best = f;
                least = unlike;
            }
        }
        return best;
    }

    /** Frames that come behind a lost one are added, removed and added again. */
    private static void addedToDamage() {
        Counted x = chain(2);
        x.setLost(1, 1);
        due("removeLast() of a lost one", x.removeLast(), 1);
        due("all can be decoded", x.count(7), 1);
        due("addDelta(0)", x.addDelta(0), 8);
        due("it is not lost", x.setLost(1, 0), -2);
        due("it can be decoded", x.frame(1, 4), 1);
        x.setLost(0, 1);
        due("addKey() with a lost one", x.addKey(), 8);
        due("addDelta(2)", x.addDelta(2), 3);
        due("can be decoded", x.count(7), 2);
    }

    /** "No record is lost then." */
    private static void lostAndRecoded() {
        for (int lost = 0; lost < 4; lost++) {
            Counted x = chain(4);
            x.setLost(lost, 1);
            if (lost > 0) {
                x.setLost(0, 1);
            }
            due("recode()", x.recode(), 6 + 3 * 8);
            due("all can be decoded", x.count(7), 4);
            for (int f = 0; f < 4; f++) {
                due("frame " + f + " is not lost", x.setLost(f, 0), -2);
                due("the true image of frame " + f, x.pixel(f, 0), f);
            }
            x.undo();
            due("lost again", x.frame(lost, 4), 0);
            due("lost again", x.count(7), 0);
        }
    }

    /** None, one, and all of the cells, of each size. */
    private static void differences() {
        for (int width = 4; width <= 12; width += 4) {
            for (int height = 4; height <= 12; height += 4) {
                Counted x = Checker.sized(width, height);
                x.addKey();
                due("none", x.difference(0, -1), 0);
                x.setCell(width * height - 1, 1);
                due("the last", x.difference(0, -1), 1);
                x.addKey();
                x.setCell(0, 15);
                due("the first and the last", x.difference(-1, 0), 2);
                due("the first", x.difference(-1, 1), 1);
                due("the last", x.difference(1, 0), 1);
                Checker.draw(x, "fill 2;");
                due("all", x.difference(0, -1), width * height);
                due("all", x.difference(-1, 1), width * height);
                due("frame 2", x.difference(0, 2), -1);
                due("frame -2", x.difference(-2, 0), -1);
            }
        }
    }
}
