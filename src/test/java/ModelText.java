import java.util.List;
import java.util.Map;
import java.util.regex.Matcher;
import java.util.regex.Pattern;

/** The text of the model: tokens by a regular expression, carried out on a copy while it is read. */
final class ModelText {
    private static final Pattern TOKEN = Pattern.compile("[a-z]+|-?[0-9]+|[^ ]", Pattern.DOTALL);
    private static final Map<String, String> COMMANDS = Map.of(
            "fill", "v", "box", "ccccv", "shift", "ss", "swap", "vv", "frame", "f");

    final Model model;
    final String text;
    final Matcher tokens;
    int[][] image;
    int commands = 0;

    ModelText(Model model, String text) {
        this.model = model;
        this.text = text;
        tokens = TOKEN.matcher(text);
        image = Model.copyOf(model.canvas);
    }

    /** The error position, or -1. */
    int error() {
        while (tokens.find()) {
            String command = tokens.group();
            String kinds = COMMANDS.get(command);
            if (kinds == null) {
                return tokens.start();
            }
            int[] numbers = new int[kinds.length()];
            for (int i = 0; i <= numbers.length; i++) {
                if (!tokens.find()) {
                    return text.length();
                }
                String token = tokens.group();
                boolean fine = i == numbers.length ? token.equals(";") : allowed(token, kinds.charAt(i));
                if (!fine) {
                    return tokens.start();
                }
                if (i < numbers.length) {
                    numbers[i] = Integer.parseInt(token);
                }
            }
            commands++;
            carryOut(command, numbers);
        }
        return -1;
    }

    private boolean allowed(String token, char kind) {
        if (!token.matches(kind == 's' ? "-?(0|[1-9][0-9]?)" : "0|[1-9][0-9]?")) {
            return false;
        }
        int number = Integer.parseInt(token);
        switch (kind) {
            case 'v':
                return number <= 15;
            case 'f':
                return number < model.frames.size() && model.readable(number);
            default:
                return Math.abs(number) <= 12;
        }
    }

    private void carryOut(String command, int[] n) {
        int[][] old = image;
        image = command.equals("frame") ? Model.copyOf(model.image(n[0])) : new int[model.height][model.width];
        for (int y = 0; y < model.height && !command.equals("frame"); y++) {
            for (int x = 0; x < model.width; x++) {
                image[y][x] = cell(command, n, old, x, y);
            }
        }
    }

    private int cell(String command, int[] n, int[][] old, int x, int y) {
        switch (command) {
            case "fill":
                return n[0];
            case "box":
                boolean inside = x >= n[0] && x <= n[0] + n[2] - 1 && y >= n[1] && y <= n[1] + n[3] - 1;
                return inside ? n[4] : old[y][x];
            case "shift":
                boolean there = x - n[0] >= 0 && x - n[0] < model.width && y - n[1] >= 0 && y - n[1] < model.height;
                return there ? old[y - n[1]][x - n[0]] : 0;
            default:
                int at = List.of(n[0], n[1]).indexOf(old[y][x]);
                return at < 0 ? old[y][x] : n[1 - at];
        }
    }
}
