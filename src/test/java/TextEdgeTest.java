/** "Text", sentence by sentence: its length, words, numbers and spaces, the error position, and what the commands do. */
public final class TextEdgeTest {
    private static final Checker CHECKER = new Checker("TextEdgeTest");
    private static final String ALL = "box 1 0 2 12 5;shift -1-12;swap 0 15;frame 0;fill 10;";
    private static final String[] WORDS = {"fill", "box", "shift", "swap", "frame"};

    public static void main(String[] args) {
        lengths();
        characters();
        words();
        valueArguments();
        lengthArguments();
        wayArguments();
        frameArguments();
        formsOfNumbers();
        argumentsInAll();
        spacesEverywhere();
        spacesLeftOut();
        everyPrefix();
        everyCharacter();
        fullTexts();
        firstErrorOfSeveral();
        keptOrEmptied();
        CHECKER.finish();
    }

    private static void due(String what, long got, long want) {
        CHECKER.due(what, got, want);
    }

    /** An object of 4 by 4 cells with one frame. */
    private static Counted coder() {
        Counted x = Checker.sized(4, 4);
        x.addKey();
        return x;
    }

    private static void draws(String text, int want) {
        Counted x = coder();
        due("draw() of \"" + text + "\"", Checker.draw(x, text), want);
        due("the length behind \"" + text + "\"", x.count(8), want < 0 ? text.length() : 0);
        due("the states behind \"" + text + "\"", x.count(9), want < 0 ? 2 : 3);
    }

    private static void errs(String text, int position) {
        draws(text, -10 - position);
    }

    /** "a text of at most 160 characters, which is built one character at a time" */
    private static void lengths() {
        Counted x = new Counted();
        due("the length of no text", x.count(8), 0);
        due("clearText() of no text", x.clearText(), 0);
        for (int length = 1; length <= 160; length++) {
            due("character " + length, x.appendCharacter(length == 159 ? ';' : ' '), length);
            due("the length then", x.count(8), length);
        }
        due("character 161", x.appendCharacter(' '), -3);
        due("character 161 again", x.appendCharacter(0), -3);
        due("character 161, and none at all", x.appendCharacter(256), -1);
        due("the length then", x.count(8), 160);
        due("draw() of 160", x.draw(), -10 - 158);
        due("it is kept", x.appendCharacter(' '), -3);
        due("clearText()", x.clearText(), 160);
        due("clearText() again", x.clearText(), 0);
        due("room again", x.appendCharacter(' '), 1);
        due("a blank text", x.draw(), 0);
        due("room again", x.appendCharacter(' '), 1);
    }

    /** "character code, 0 to 255" */
    private static void characters() {
        for (int code = 0; code <= 255; code++) {
            Counted x = new Counted();
            due("character " + code, x.appendCharacter(code), 1);
        }
        for (int code : new int[] {-1, 256, 257, -256, 65536, 65536 + 32, Integer.MIN_VALUE, Integer.MAX_VALUE}) {
            Counted x = new Counted();
            due("character " + code, x.appendCharacter(code), -1);
            due("the length behind character " + code, x.count(8), 0);
        }
    }

    private static void words() {
        String[] rests = {" 1;", " 1 1 1 1 1;", " 1 1;", " 1 1;", " 0;"};
        for (int w = 0; w < WORDS.length; w++) {
            String word = WORDS[w];
            draws(word + rests[w], 1);
            draws("fill 1; " + word + rests[w], 2);
            for (int i = 0; i < word.length(); i++) {
                String front = word.substring(0, i);
                String back = word.substring(i + 1);
                errs(front + back + rests[w], 0);
                errs("fill 1; " + front + back + rests[w], 8);
                errs(front + (char) (word.charAt(i) + 1) + back + rests[w], 0);
                errs(front + word.charAt(i) + word.charAt(i) + back + rests[w], 0);
                errs(front + (char) (word.charAt(i) - 32) + back + rests[w], 0);
                if (i > 0) {
                    errs(front + " " + word.charAt(i) + back + rests[w], 0);
                }
            }
            for (char more = 'a'; more <= 'z'; more++) {
                errs(word + more + rests[w], 0);
                errs(more + word + rests[w], 0);
            }
            for (String other : WORDS) {
                errs(word + other + rests[w], 0);
                errs(word + " " + other + rests[w], word.length() + 1);
            }
        }
    }

    /** In the place of the star stands each number from 0 to 150, of which just those up to the greatest are allowed. */
    private static void numbers(String text, int greatest) {
        int at = text.indexOf('*');
        String front = text.substring(0, at);
        String back = text.substring(at + 1);
        for (int n = 0; n <= 150; n++) {
            draws(front + n + back, n <= greatest ? 1 : -10 - at);
        }
        for (String wrong : new String[] {"-0", "-1", "-12", "-15", "00", "01", "09", "010", "- 1", "+1", "a", ";", "-", "160",
            "256", "4294967296", "18446744073709551616"}) {
            errs(front + wrong + back, at);
        }
    }

    /** "VALUE, A and B are 0 to 15" */
    private static void valueArguments() {
        numbers("fill *;", 15);
        numbers("box 1 2 3 4 *;", 15);
        numbers("swap * 3;", 15);
        numbers("swap 3 *;", 15);
    }

    /** "X, Y, W and H are 0 to 12" */
    private static void lengthArguments() {
        numbers("box * 2 3 4 5;", 12);
        numbers("box 1 * 3 4 5;", 12);
        numbers("box 1 2 * 4 5;", 12);
        numbers("box 1 2 3 * 5;", 12);
    }

    /** "DX and DY are -12 to 12 with an optional "-" directly before the digits" */
    private static void wayArguments() {
        String[][] texts = {{"shift ", " 3;"}, {"shift 3 ", ";"}, {"shift -3 ", ";"}, {"shift -3", ";"}, {"shift 3", ";"}};
        for (String[] text : texts) {
            boolean needsSign = text[0].endsWith("3");
            for (int n = 0; n <= 150; n++) {
                draws(text[0] + "-" + n + text[1], n <= 12 ? 1 : -10 - text[0].length());
                if (!needsSign) {
                    draws(text[0] + n + text[1], n <= 12 ? 1 : -10 - text[0].length());
                }
            }
            for (String wrong : new String[] {"--1", "-01", "-00", "-012", "- 1", "-;", "-a", "-", "-128", "-+1", "- -1"}) {
                errs(text[0] + wrong + text[1], text[0].length());
            }
        }
        errs("shift 00 0;", 6);
        errs("shift 01 0;", 6);
        errs("shift 1-;", 7);
        errs("shift 1--1;", 7);
        errs("shift 1 1-1;", 9);
        errs("shift 1-1-1;", 9);
        errs("shift 1 1 1;", 10);
    }

    /** "F is a frame that can be decoded" */
    private static void frameArguments() {
        numbers("frame *;", 0);
        Counted x = Checker.sized(4, 4);
        errsFrame(x, 0, -1);
        for (int f = 0; f < 10; f++) {
            x.setCell(0, f);
            x.addKey();
            errsFrame(x, f, f);
            errsFrame(x, f + 1, -1);
        }
        x.setLost(4, 1);
        errsFrame(x, 3, 3);
        errsFrame(x, 4, -1);
        errsFrame(x, 5, 5);
        x = Checker.sized(4, 4);
        x.addKey();
        x.addDelta(0);
        x.addKey();
        x.setLost(0, 1);
        errsFrame(x, 0, -1);
        errsFrame(x, 1, -1);
        errsFrame(x, 2, 0);
        due("an error before the lost one", Checker.draw(x, "fill 16;frame 0;"), -15);
        due("an error behind commands", Checker.draw(x, "fill 3;fill 4;frame 1;"), -30);
        due("they are not carried out", x.cell(5), 0);
        x.setLost(0, 0);
        due("the same text then", x.draw(), 3);
        due("they are carried out", x.cell(5), 0);
    }

    private static void errsFrame(Counted x, int f, int firstCell) {
        due("draw() of frame " + f, Checker.draw(x, "fill 7;frame " + f + ";"), firstCell < 0 ? -23 : 2);
        if (firstCell >= 0) {
            due("the first cell of frame " + f, x.cell(0), firstCell);
            due("the last cell of frame " + f, x.cell(15), 0);
            x.undo();
        }
    }

    /** "Numbers have one or two digits, not beginning with 0 if there are two." */
    private static void formsOfNumbers() {
        for (int n = 0; n <= 99; n++) {
            String twoDigits = n < 10 ? "0" + n : "" + n;
            draws("fill " + twoDigits + ";", n >= 10 && n <= 15 ? 1 : -15);
            draws("fill" + twoDigits + ";", n >= 10 && n <= 15 ? 1 : -14);
            draws("box 0 0 " + twoDigits + " 1 1;", n >= 10 && n <= 12 ? 1 : -18);
            errs("fill 0" + twoDigits + ";", 5);
            errs("fill 1" + twoDigits + ";", 5);
        }
        errs("fill 1 5;", 7);
        errs("fill 0 0;", 7);
        errs("swap 1 0 5;", 9);
    }

    /** One argument too few, one too many, and none, in each command. */
    private static void argumentsInAll() {
        int[] counts = {1, 5, 2, 2, 1};
        for (int w = 0; w < WORDS.length; w++) {
            for (int given = 0; given <= 7; given++) {
                String text = WORDS[w] + " 0".repeat(given);
                int position = given < counts[w] ? text.length() : WORDS[w].length() + 2 * counts[w] + 1;
                draws(text + ";", given == counts[w] ? 1 : -10 - position);
                draws(text, given <= counts[w] ? -10 - text.length() : -10 - position);
                errs(text + ",", given <= counts[w] ? text.length() : position);
                errs(text + " fill 1;", given <= counts[w] ? text.length() + 1 : position);
            }
            errs(WORDS[w], WORDS[w].length());
            errs(WORDS[w] + "   ", WORDS[w].length() + 3);
            errs(WORDS[w] + "  ;", WORDS[w].length() + 2);
        }
        errs(";", 0);
        errs("  ;", 2);
        errs("fill 1;;", 7);
        errs("fill 1; ;fill 1;", 8);
        errs("1;", 0);
        errs("-1;", 0);
        errs("-", 0);
        errs("fill 1;5", 7);
        errs("fill 1;  -", 9);
    }

    /** "Spaces (code 32) may stand everywhere but within words and numbers and behind a "-"" */
    private static void spacesEverywhere() {
        draws(ALL, 5);
        for (int at = 0; at <= ALL.length(); at++) {
            for (int spaces = 1; spaces <= 3; spaces++) {
                draws(ALL.substring(0, at) + " ".repeat(spaces) + ALL.substring(at), withSpaces(at, spaces));
            }
        }
    }

    /** What is due for ALL with spaces before the character at this offset. */
    private static int withSpaces(int at, int spaces) {
        if (at == 0 || at == ALL.length()) {
            return 5;
        }
        char before = ALL.charAt(at - 1);
        char behind = ALL.charAt(at);
        if (before == '-') {
            return -10 - (at - 1);
        }
        if (Character.isLetter(before) && Character.isLetter(behind)) {
            int start = at;
            while (start > 0 && Character.isLetter(ALL.charAt(start - 1))) {
                start--;
            }
            return -10 - start;
        }
        if (Character.isDigit(before) && Character.isDigit(behind)) {
            // the first digit alone is a number that is allowed, so the second one is a number too many
            boolean isBoxHeight = ALL.startsWith("2 5", at);
            return isBoxHeight ? -10 - (at + spaces + 2) : -10 - (at + spaces);
        }
        return 5;
    }

    /** "they are necessary between two numbers (unless the second one begins with "-")" */
    private static void spacesLeftOut() {
        draws("box1 2 3 4 5;fill6;swap7 8;shift9 10;shift-1 2;shift-1-2;shift1-2;frame0;", 8);
        draws("fill6;fill7;", 2);
        draws("shift-12-12;", 1);
        errs("box12 3 4 5;", 11);
        errs("swap12;", 6);
        errs("swap 123;", 5);
        errs("swap 1234;", 5);
        errs("shift 12;", 8);
        errs("shift 1212;", 6);
        errs("fill 1 2;", 7);
        errs("shift\t1 2;", 5);
        errs("shift 1\t2;", 7);
        errs("fill 1\n;", 6);
        errs("fill 1;\r", 7);
        errs("fill\u00a01;", 4);
        errs("fill\0001;", 4);
    }

    /** "if the text ends inside of a command, it is the length of the text" */
    private static void everyPrefix() {
        int commands = 0;
        for (int length = 0; length <= ALL.length(); length++) {
            String text = ALL.substring(0, length);
            int behindLast = text.lastIndexOf(';') + 1;
            commands += text.endsWith(";") ? 1 : 0;
            String open = text.substring(behindLast);
            if (open.isEmpty()) {
                draws(text, commands);
                draws(text + "  ", commands);
            } else if (!isCutWord(open)) {
                boolean cutSign = open.endsWith("-");
                errs(text, cutSign ? length - 1 : length);
                errs(text + "  ", cutSign ? length - 1 : length + 2);
            } else {
                errs(text, behindLast);
                errs(text + " ", behindLast);
            }
        }
    }

    private static boolean isCutWord(String open) {
        for (String word : WORDS) {
            if (word.startsWith(open) && !word.equals(open)) {
                return true;
            }
        }
        return false;
    }

    /** Each character in each kind of place; whether a capital letter belongs to a word is left open. */
    private static void everyCharacter() {
        for (int code = 0; code <= 255; code++) {
            char c = (char) code;
            boolean digit = c >= '0' && c <= '9';
            boolean letter = c >= 'a' && c <= 'z' || c >= 'A' && c <= 'Z';
            draws(c + " fill 1;", c == ' ' ? 1 : -10);
            draws("fill 1;" + c, c == ' ' ? 1 : -17);
            draws("fill " + c + " ;", digit ? 1 : c == ' ' ? -17 : -15);
            boolean fits = c >= '0' && c <= '5';
            draws("fill 1" + c + ";", c == ' ' || fits ? 1 : digit ? -15 : c == ';' ? -17 : -16);
            draws("fill 1" + c, c == ';' ? 1 : c == ' ' || fits ? -17 : digit ? -15 : -16);
            draws("shift 1" + c + "2;", c == ' ' || c == '-' ? 1 : c >= '0' && c <= '9' ? -16 : -17);
            if (!letter) {
                draws("fill" + c + "1;", c == ' ' || c == '1' ? 1 : -14);
                draws("fill" + c + ";", digit ? 1 : c == ' ' ? -15 : -14);
            }
            if (c >= 'a' && c <= 'z') {
                errs("fill" + c + "1;", 0);
            }
        }
    }

    /** 160 characters that are all read, the first and the last of them. */
    private static void fullTexts() {
        String full = "fill0;".repeat(26);
        draws(full, 26);
        draws(full + "    ", 26);
        errs(full + "   ;", 159);
        errs(full + "fill", 160);
        errs(full + " 1 1", 157);
        draws(" ".repeat(153) + "fill 7;", 1);
        draws(" ".repeat(152) + "fill 12;", 1);
        draws(" ".repeat(152) + "fill 12 ", -10 - 160);
        draws(" ".repeat(153) + "fill 16", -10 - 158);
        draws("fill 7" + " ".repeat(153) + ";", 1);
        draws("fill 7" + " ".repeat(154), -10 - 160);
        draws("fill" + " ".repeat(154) + "7;", 1);
        draws(" ".repeat(160), 0);
        draws("", 0);
    }

    /** "the first character of the first token that is not allowed where it stands" */
    private static void firstErrorOfSeveral() {
        errs("fill 16;fill 17;", 5);
        errs("dot 1;fill 16;", 0);
        errs("box 1 13 13 13 16;", 6);
        errs("box 1 1 1 1 16 1", 12);
        errs("shift 13 13 13", 6);
        errs("swap 1 16 2", 7);
        errs("frame 1;frame 2;", 6);
        errs("fill 1,fill", 6);
        errs("fill 1;fill 2;fill 3;fil 4;fill", 21);
    }

    /** "The text becomes empty"; with an error "nothing changes, and the text is kept". */
    private static void keptOrEmptied() {
        Counted x = Checker.sized(4, 4);
        Checker.type(x, "fill 3;fill");
        due("an open command", x.draw(), -21);
        due("it is kept", x.count(8), 11);
        due("nothing has changed", x.cell(0), 0);
        due("and again", x.draw(), -21);
        Checker.type(x, " 5");
        due("an open command still", x.draw(), -23);
        Checker.type(x, ";");
        due("the whole text", x.draw(), 2);
        due("it is empty", x.count(8), 0);
        due("nothing more", x.draw(), 0);
        due("the last command counts", x.cell(15), 5);
        due("undo() of the empty one", x.undo(), 2);
        due("nothing is seen of it", x.cell(15), 5);
        due("undo() of the other", x.undo(), 1);
        due("it is undone whole", x.cell(15), 0);
        due("the text stays empty", x.count(8), 0);
    }
}
