/** Puts texts on the TAPE of a FrameReader. */
final class Feeder {
    private Feeder() {
    }

    /** The TAPE, empty ahead of it, has just this text then. */
    static void feed(FrameReader x, String text) {
        for (int at = 0; at < text.length(); at += 20) {
            x.feed(number(text, at), number(text, at + 4), number(text, at + 8), number(text, at + 12),
                number(text, at + 16));
        }
        x.end(text.length());
    }

    static int mark(FrameReader x, int joint, String signs) {
        feed(x, signs);
        return x.mark(joint);
    }

    static int custom(FrameReader x, int c, String text) {
        feed(x, text);
        return x.custom(c);
    }

    static String outText(FrameReader x) {
        StringBuilder text = new StringBuilder();
        int next = x.out(0);
        while (next != FrameReader.NONE) {
            text.append((char) next);
            next = x.out(text.length());
        }
        return text.toString();
    }

    private static int number(String text, int at) {
        int number = 0;
        for (int i = at; i < at + 4; i++) {
            number = number << 8 | (i < text.length() ? text.charAt(i) : ' ');
        }
        return number;
    }
}
