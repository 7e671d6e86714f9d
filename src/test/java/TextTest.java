/** Promise 7: the commands of the text and the error position. */
public final class TextTest {
    private static final Checker CHECKER = new Checker("TextTest");

    public static void main(String[] args) {
        commands();
        shifts();
        frames();
        spaces();
        errors();
        numberErrors();
        endErrors();
        nothingChanges();
        CHECKER.finish();
    }

    private static void canvas(String what, Counted x, String... rows) {
        int cell = 0;
        for (String row : rows) {
            for (int i = 0; i < row.length(); i++) {
                CHECKER.due("promise 7: " + what + ", cell " + cell, x.cell(cell),
                        Character.digit(row.charAt(i), 16));
                cell++;
            }
        }
    }

    private static void draws(Counted x, String text, int want) {
        CHECKER.due("promise 7: draw of \"" + text + "\"", Checker.draw(x, text), want);
    }

    /** A text of its own object, whose canvas and frames play no part. */
    private static void fresh(String text, int want) {
        draws(Checker.sized(4, 4), text, want);
    }

    private static void commands() {
        Counted x = Checker.sized(8, 4);
        draws(x, "fill 15;", 1);
        canvas("fill", x, "ffffffff", "ffffffff", "ffffffff", "ffffffff");
        CHECKER.due("promise 7: the text is empty then", x.count(8), 0);
        draws(x, "box 1 2 3 1 4;", 1);
        canvas("box", x, "ffffffff", "ffffffff", "f444ffff", "ffffffff");
        draws(x, "box 6 0 12 12 0;box 12 12 12 12 9;box 0 0 0 4 3;box 0 0 4 0 3;", 4);
        canvas("boxes", x, "ffffff00", "ffffff00", "f444ff00", "ffffff00");
        draws(x, "swap 15 4;", 1);
        canvas("swap", x, "44444400", "44444400", "4fff4400", "44444400");
        draws(x, "swap 4 4;swap 1 2;", 2);
        canvas("swaps", x, "44444400", "44444400", "4fff4400", "44444400");
        draws(x, "fill 1;swap 1 2;swap 2 3;box 0 0 1 1 4;", 4);
        canvas("in order", x, "43333333", "33333333", "33333333", "33333333");
        draws(x, "", 0);
        draws(x, "     ", 0);
        CHECKER.due("promise 7: a blank text goes too", x.count(8), 0);
    }

    private static void shifts() {
        Counted x = Checker.sized(4, 4, "1234", "5678", "9abc", "def1");
        draws(x, "shift 1 0;", 1);
        canvas("right", x, "0123", "0567", "09ab", "0def");
        draws(x, "shift -2 0;", 1);
        canvas("left", x, "2300", "6700", "ab00", "ef00");
        draws(x, "shift 0 1;", 1);
        canvas("down", x, "0000", "2300", "6700", "ab00");
        draws(x, "shift 1-2;", 1);
        canvas("right and up", x, "0670", "0ab0", "0000", "0000");
        draws(x, "shift -0 -0;", 1);
        canvas("no shift", x, "0670", "0ab0", "0000", "0000");
        draws(x, "shift 12 0;", 1);
        canvas("out", x, "0000", "0000", "0000", "0000");
        draws(x, "fill 1;shift 0 -12;", 2);
        canvas("out at the top", x, "0000", "0000", "0000", "0000");
        draws(x, "fill 1;shift -1 0;", 2);
        canvas("zeros from the right", x, "1110", "1110", "1110", "1110");
        draws(x, "swap 0 5;shift 0 -1;", 2);
        canvas("zeros from below", x, "1115", "1115", "1115", "0000");
        draws(x, "fill 1;shift 1 1;", 2);
        canvas("zeros from above and left", x, "0000", "0111", "0111", "0111");
    }

    private static void frames() {
        Counted x = Checker.sized(4, 4, "1111", "0000", "0000", "0000");
        x.addKey();
        draws(x, "fill 7;", 1);
        x.addKey();
        draws(x, "frame 0;", 1);
        canvas("frame 0", x, "1111", "0000", "0000", "0000");
        draws(x, "shift 0 1;frame1;", 2);
        canvas("frame 1", x, "7777", "7777", "7777", "7777");
        draws(x, "frame 2;", -16);
        draws(x, "frame 10;", -16);
        draws(x, "frame -0;", -16);
        x.setLost(0, 1);
        draws(x, "frame 0;", -16);
        draws(x, "frame 1;", 1);
        x.setLost(0, 0);
        draws(x, "frame 0;", 1);
        canvas("found again", x, "1111", "0000", "0000", "0000");
    }

    private static void spaces() {
        Counted x = Checker.sized(4, 4);
        draws(x, "  box  1   0 2 1   5  ;  fill0;", 2);
        draws(x, "box1 0 2 1 5;", 1);
        canvas("few spaces", x, "0550", "0000", "0000", "0000");
        draws(x, "shift-1-0;", 1);
        canvas("no spaces", x, "5500", "0000", "0000", "0000");
        draws(x, "shift-1 0 ; fill 2 ;", 2);
        canvas("spaces before the end", x, "2222", "2222", "2222", "2222");
    }

    private static void errors() {
        Counted x = Checker.sized(4, 4);
        fresh("fil 1;", -10);
        fresh("filll 1;", -10);
        fresh("fillz 1;", -10);
        fresh("filla 1;", -10);
        fresh("bill 1;", -10);
        fresh("fillbox 1;", -10);
        fresh("fi ll 1;", -10);
        fresh("Fill 1;", -10);
        fresh(";", -10);
        fresh("fill 1;;", -17);
        fresh("fill;", -14);
        fresh("fill fill;", -15);
        fresh("fill 1 fill 2;", -17);
        fresh("fill 1,", -16);
        fresh("fill 1a;", -16);
        fresh("  dot 1;", -12);
        fresh("fill 1; dot", -18);
        fresh("5;", -10);
        fresh("fill\t1;", -14);
        fresh("swap 1 2 3;", -19);
        fresh("box 1 1 1 1;", -21);
        fresh("fill 1;fill 16;fill 17;", -22);
        x.clearText();
        x.appendCharacter(0);
        CHECKER.due("promise 7: draw of a sign 0", x.draw(), -10);
        x.clearText();
        Checker.type(x, "fill 1");
        x.appendCharacter(160);
        x.appendCharacter(59);
        CHECKER.due("promise 7: draw with a sign 160", x.draw(), -16);
    }

    private static void numberErrors() {
        fresh("fill 16;", -15);
        fresh("fill 123;", -15);
        fresh("fill 01;", -15);
        fresh("fill 00;", -15);
        fresh("fill -1;", -15);
        fresh("fill -0;", -15);
        fresh("fill 1 2;", -17);
        fresh("swap 12;", -17);
        fresh("swap 16 1;", -15);
        fresh("swap 1 16;", -17);
        fresh("box 13 0 0 0 0;", -14);
        fresh("box 0 13 0 0 0;", -16);
        fresh("box 0 0 13 0 0;", -18);
        fresh("box 0 0 0 13 0;", -20);
        fresh("box 0 0 0 0 16;", -22);
        fresh("box 12 12 12 12 15;", 1);
        fresh("box 0 -1 0 0 0;", -16);
        fresh("shift 13 0;", -16);
        fresh("shift 0 -13;", -18);
        fresh("shift -12 12;", 1);
        fresh("shift -01 0;", -16);
        fresh("shift --1 0;", -16);
        fresh("shift - 1 0;", -16);
        fresh("shift 1- 2;", -17);
        fresh("shift -100 0;", -16);
        fresh("fill 5-;", -16);
        fresh("fill 5-1;", -16);
        fresh("fill 99999999999999999999;", -15);
    }

    private static void endErrors() {
        fresh("fill", -14);
        fresh("fill ", -15);
        fresh("fill 1", -16);
        fresh("fill 1   ", -19);
        fresh("fill 1;swap 1", -23);
        fresh("shift -", -16);
        fresh("shift 1 1", -19);
        fresh("fill 16", -15);
        fresh("fil", -10);
        StringBuilder full = new StringBuilder();
        while (full.length() < 153) {
            full.append(' ');
        }
        fresh(full + "fill 10", -170);
        fresh(full + "fill 1;", 1);
        full.setLength(0);
        while (full.length() < 155) {
            full.append("fill0;");
        }
        fresh(full + "fill", -170);
        full.append("    ");
        fresh(full.toString(), 26);
    }

    private static void nothingChanges() {
        Counted x = Checker.sized(4, 4);
        x.setCell(5, 5);
        int saved = x.count(9);
        Checker.type(x, "fill 1;fill 2");
        CHECKER.due("promise 7: an error behind a command", x.draw(), -23);
        CHECKER.due("promise 7: an error changes nothing", x.cell(0), 0);
        CHECKER.due("promise 7: the text is kept", x.count(8), 13);
        CHECKER.due("promise 7: the text can be ended", x.appendCharacter(59), 14);
        CHECKER.due("promise 7: and drawn", x.draw(), 2);
        CHECKER.due("promise 7: cell(5)", x.cell(5), 2);
        CHECKER.due("promise 7: saved", x.count(9), saved + 1);
        CHECKER.due("promise 7: an empty text", x.draw(), 0);
        CHECKER.due("promise 7: is saved too", x.count(9), saved + 2);
    }
}
