import java.util.ArrayList;
import java.util.List;

/** Many texts of customs, right and wrong ones, read by a FrameReader and by the lines' shapes alike (promises 2, 9, 10, 12). */
public final class CustomModelTest {
    private static final int RUNS = 4000;
    private static final int TEXTS = 4;
    private static final String[] KINDS = {"post", "beam", "rafter", "brace"};
    private static final String KIND = "post|beam|rafter|brace";
    private static final String NUMBER = "[0-9][0-9]?";
    private static final String[][] SHAPES = {
        {"four", "add|less|both", ";"}, {"turn", ";"}, {"slack", NUMBER, ";"}, {KIND, "into", KIND, ";"},
        {KIND, "ahead", KIND, ";"}, {"hold", NUMBER, ";"}, {"level", NUMBER, ";"}, {"margin", NUMBER, ";"},
        {"sap", NUMBER, "to", NUMBER, ";"}, {"stock", NUMBER, ";"}};
    private static final String[] PIECES = {"four", "add", "less", "both", "turn", "slack", "into", "ahead", "hold",
        "level", "margin", "sap", "to", "stock", "post", "beam", "rafter", "brace", ";", "0", "3", "4", "5", "6", "9",
        "10", "07", "99", "100", "x", "Turn", "posts", "pos", ",", "'", "\t", "\0", "\u00e4", "\u00ff", "-", ""};
    private static final Due DUE = new Due("CustomModelTest");

    private final FrameReader x = new FrameReader();
    private final int[][] said = {valuesAtFirst(), valuesAtFirst()};
    private final Lot lot;

    private CustomModelTest(int run) {
        lot = new Lot(run);
    }

    public static void main(String[] args) {
        int[] kinds = new int[4];
        for (int run = 0; run < RUNS; run++) {
            CustomModelTest test = new CustomModelTest(run);
            for (int i = 0; i < TEXTS; i++) {
                kinds[test.tellOne(run)]++;
            }
        }
        for (int kind = 0; kind < kinds.length; kind++) {
            DUE.is("often enough a fault " + kind, kinds[kind] > RUNS / 20, true);
        }
        DUE.end();
    }

    private int tellOne(int run) {
        String text = lot.oneIn(8) ? manyLines() : someLines();
        int c = lot.below(2);
        Reading reading = new Reading(text);
        String call = "run " + run + " custom " + c + " \"" + text + "\" ";
        DUE.is(call, Feeder.custom(x, c, text), reading.fault == 0 ? reading.lines : FrameReader.NONE);
        DUE.is(call + "fault", x.fault(0), reading.fault);
        DUE.is(call + "place", x.fault(1), reading.fault == 0 ? FrameReader.NONE : reading.place);
        DUE.is(call + "empties the tape", x.end(1), false);
        if (reading.fault == 0) {
            said[c] = reading.values;
        }
        for (int what = 0; what < 46; what++) {
            DUE.is(call + "says " + what, x.customs(c, what), valueDue(said[c], what));
        }
        return reading.fault;
    }

    private static int valueDue(int[] values, int what) {
        if (what < 30) {
            return values[what];
        }
        int k = (what - 30) / 4;
        int m = (what - 30) % 4;
        return values[what] == 1 && values[30 + 4 * m + k] == 1 ? 0 : values[what];
    }

    private static int[] valuesAtFirst() {
        int[] values = new int[46];
        System.arraycopy(new int[] {3, 0, 1, 2, 60, 1, 10, 30, 2}, 0, values, 0, 9);
        for (int what = 9; what < 30; what++) {
            values[what] = what == 9 || what > 25 ? FrameReader.NONE : 0;
        }
        return values;
    }

    private String someLines() {
        StringBuilder text = new StringBuilder();
        int lines = lot.below(9);
        for (int i = 0; i < lines; i++) {
            line(text, lot.oneIn(4) ? 6 : 100);
        }
        return text.substring(0, lot.oneIn(4) ? lot.below(text.length() + 1) : text.length());
    }

    /** Forty lines or some more, the shortest or the longest ones. */
    private String manyLines() {
        StringBuilder text = new StringBuilder();
        String whole = lot.oneIn(2) ? "turn;" : "sap 4 to 9;";
        int lines = lot.between(38, 42);
        for (int i = 0; i < lines; i++) {
            text.append(lot.oneIn(200) ? "turn" : whole);
        }
        line(text, 4);
        return text.toString();
    }

    private void line(StringBuilder text, int wrongOneIn) {
        for (String part : SHAPES[lot.below(SHAPES.length)]) {
            String piece = lot.oneIn(wrongOneIn) ? PIECES[lot.below(PIECES.length)] : pieceOf(part);
            text.append(piece).append(blank(piece));
        }
    }

    private String pieceOf(String part) {
        if (part.equals(NUMBER)) {
            int number = lot.oneIn(4) ? lot.below(100) : lot.below(7);
            return number < 10 && lot.oneIn(4) ? "0" + number : "" + number;
        }
        String[] words = part.split("\\|");
        return words[lot.below(words.length)];
    }

    private String blank(String piece) {
        if (piece.equals(";") && lot.oneIn(2) || lot.oneIn(30)) {
            return "";
        }
        return lot.oneIn(8) ? " \n" : lot.oneIn(8) ? "\n" : " ";
    }

    /** One text, read token by token against all shapes that its line may still have. */
    private static final class Reading {
        final int[] values = valuesAtFirst();
        int lines = 0;
        int fault = 0;
        int place = 0;
        private final List<String> line = new ArrayList<>();

        Reading(String text) {
            int at = 0;
            while (fault == 0 && at < text.length()) {
                int next = at + 1;
                while (next < text.length() && sort(text.charAt(at)) < 2
                        && sort(text.charAt(next)) == sort(text.charAt(at))) {
                    next++;
                }
                if (sort(text.charAt(at)) != 2) {
                    place = at;
                    take(text.substring(at, next));
                }
                at = next;
            }
            if (fault == 0 && !line.isEmpty()) {
                fault = 1;
                place = text.length();
            }
        }

        private static int sort(char c) {
            if (c >= 'a' && c <= 'z' || c >= 'A' && c <= 'Z') {
                return 0;
            }
            if (c >= '0' && c <= '9') {
                return 1;
            }
            return c == ' ' || c == '\n' ? 2 : 3;
        }

        private void take(String token) {
            line.add(token);
            if (!canStand()) {
                fault = 1;
            } else if (isTooMuch()) {
                fault = 2;
            } else if (lines == 40) {
                fault = 3;
            } else if (token.equals(";")) {
                say();
                lines++;
                line.clear();
            }
        }

        private boolean canStand() {
            for (String[] shape : SHAPES) {
                boolean fits = line.size() <= shape.length;
                for (int i = 0; fits && i < line.size(); i++) {
                    fits = line.get(i).matches(shape[i]);
                }
                if (fits) {
                    return true;
                }
            }
            return false;
        }

        private int number(int i) {
            return Integer.parseInt(line.get(i));
        }

        private boolean isTooMuch() {
            String first = line.get(0);
            if (line.size() == 2) {
                return first.equals("slack") && number(1) > 3 || first.equals("hold") && number(1) > 5
                    || first.equals("margin") && number(1) > 9;
            }
            return line.size() == 4 && first.equals("sap") && number(3) < number(1);
        }

        private void say() {
            switch (line.get(0)) {
                case "four" -> values[0] = List.of("add", "less", "both").indexOf(line.get(1)) + 1;
                case "turn" -> values[1] = 1;
                case "slack" -> values[2] = number(1);
                case "hold" -> values[3] = number(1);
                case "level" -> values[4] = number(1);
                case "margin" -> values[5] = number(1);
                case "sap" -> {
                    values[6] = number(1);
                    values[7] = number(3);
                }
                case "stock" -> values[8] = number(1);
                default -> {
                    int k = List.of(KINDS).indexOf(line.get(0));
                    int m = List.of(KINDS).indexOf(line.get(2));
                    values[(line.get(1).equals("into") ? 10 : 30) + 4 * k + m] = 1;
                }
            }
        }
    }
}
