/** Wild calls: none may throw, none may hang, and the same calls always have the same answers. */
public final class WildTest {
    private static final int RUNS = 400;
    private static final int CALLS = 512;
    private static final int[] WILD = {Integer.MIN_VALUE, Integer.MIN_VALUE + 1, -1000, -2, -1, 0, 1, 2, 7, 10, 16, 45,
        46, 48, 99, 100, 199, 200, 800, 999, 1000, 9999, Integer.MAX_VALUE - 1, Integer.MAX_VALUE};
    private static final String[] TEXTS = {"turn;", "post into post;", "beam into post;slack 3;", "post ahead beam;",
        "hold 5;level 0;margin 0;", "sap 5 to 4;", "four less;post into beam;beam into post;", "I", "VI'", "X??", "'"};

    private static final Due DUE = new Due("WildTest");

    private WildTest() {
    }

    public static void main(String[] args) {
        for (int run = 0; run < RUNS; run++) {
            DUE.is("run " + run + " again", play(run), play(run));
        }
        DUE.end();
    }

    private static long play(int run) {
        Lot lot = new Lot(77 + run);
        FrameReader x = new FrameReader();
        long sum = 0;
        boolean tame = lot.oneIn(2);
        for (int i = 0; i < CALLS; i++) {
            if (lot.oneIn(12)) {
                Feeder.feed(x, TEXTS[lot.below(TEXTS.length)]);
            }
            int which = lot.below(tame && i < 100 ? 8 : 36);
            sum = 31 * sum + call(x, which, number(lot, tame), number(lot, tame), number(lot, tame), lot);
        }
        return sum;
    }

    private static int number(Lot lot, boolean tame) {
        if (lot.oneIn(tame ? 12 : 3)) {
            return WILD[lot.below(WILD.length)];
        }
        return lot.below(lot.oneIn(3) ? 48 : 4);
    }

    private static long call(FrameReader x, int which, int a, int b, int c, Lot lot) {
        switch (which) {
            case 0: return x.timber(a, b);
            case 1: return x.joint(a, b, lot.below(2), c);
            case 2: return x.joint(lot.below(16), 0, lot.below(2), 1 + lot.below(4));
            case 3: return x.timber(lot.below(4), 9);
            case 4: return x.mark(lot.below(48));
            case 5: return x.custom(lot.below(2));
            case 6: return x.ring(lot.below(16), lot.below(5));
            case 7: return x.master(lot.below(200), lot.below(5)) ? 1 : 0;
            case 8: return x.days(a);
            case 9: return x.view(a) ? 1 : 0;
            case 10: return x.feed(a, b, c, a, b);
            case 11: return x.end(a) ? 1 : 0;
            case 12: return x.mark(a);
            case 13: return x.custom(a);
            case 14: return x.fault(a);
            case 15: return x.look(a);
            case 16: return x.customs(a, b);
            case 17: return x.of(a, b);
            default: return ask(x, which, a, b, c, lot);
        }
    }

    private static long ask(FrameReader x, int which, int a, int b, int c, Lot lot) {
        switch (which) {
            case 18: return x.at(a, b);
            case 19: return x.reads(a, b);
            case 20: return x.fits(a, b, c);
            case 21: return x.join(a, b);
            case 22: return x.mate(a, b);
            case 23: return x.forced(a, b);
            case 24: return x.frameOf(a, b);
            case 25: return x.frame(lot.below(2), b, c);
            case 26: return x.orders(a, b);
            case 27: return x.raised(a, b, c);
            case 28: return x.master(a, b) ? 1 : 0;
            case 29: return x.ring(a, b);
            case 30: return x.sap(a, b, c > 0) ? 1 : 0;
            case 31: return x.date(a, b, c);
            case 32: return x.built(a, b, c);
            case 33: return x.lean(a, b, c) ? 1 : 0;
            case 34: return x.leans(a, b) + x.falls(a, c);
            default: return x.write(a) + x.out(b);
        }
    }
}
