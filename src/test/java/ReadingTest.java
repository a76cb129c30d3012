/** Promises 11, 17 to 23 and 27 to 33: joins, frames, raisings, dates and leans, counted out by hand. */
public final class ReadingTest {
    private static final int NONE = FrameReader.NONE;
    private static final int BIG = Integer.MAX_VALUE;
    private static final int SMALL = Integer.MIN_VALUE;
    private static final int[] WIDTHS = {1, 5, 3, 3, 7, 2, 6, 6, 6, 1};
    private static final Due DUE = new Due("ReadingTest");

    private ReadingTest() {
    }

    public static void main(String[] args) {
        bestJoin();
        forcedPairs();
        olderFrame();
        wrongAsks();
        framesByLeast();
        raisings();
        notRaised();
        wholeHouse();
        dates();
        spans();
        buildings();
        leans();
        leanLimit();
        falls();
        writing();
        DUE.end();
    }

    /** Posts, each with one TENON, and beams, each with one HOLE, of these sizes. */
    private static FrameReader posts(int[] tenons, int[] holes) {
        FrameReader x = new FrameReader();
        for (int i = 0; i < tenons.length; i++) {
            x.joint(x.timber(0, 9), 0, 0, tenons[i]);
        }
        for (int i = 0; i < holes.length; i++) {
            x.joint(x.timber(1, 9), 0, 1, holes[i]);
        }
        Feeder.custom(x, 0, "post into beam;slack 3;");
        return x;
    }

    private static void bestJoin() {
        FrameReader x = posts(new int[] {4, 3, 3}, new int[] {6, 4, 5});
        DUE.is("pairs", x.join(0, 0), 3);
        DUE.is("sum", x.join(0, 1), 5);
        DUE.is("the least hole first", x.mate(0, 0), 3);
        DUE.is("then", x.mate(0, 1), 4);
        DUE.is("then", x.mate(0, 2), 5);
        DUE.is("of a hole", x.mate(0, 3), 0);
        DUE.is("forced", x.join(0, 2), 0);
        x = posts(new int[] {5, 4}, new int[] {5, 8, 4});
        DUE.is("the least sum ahead of the first", x.join(0, 1), 0);
        DUE.is("5 in 5", x.mate(0, 0), 2);
        DUE.is("4 in 4", x.mate(0, 1), 4);
        DUE.is("idle", x.mate(0, 3), NONE);
        x = posts(new int[] {5, 3}, new int[] {5, 9});
        DUE.is("the most pairs", x.join(0, 0), 1);
        DUE.is("the least sum", x.join(0, 1), 0);
        x = posts(new int[] {5, 3}, new int[] {5, 8});
        DUE.is("the most pairs ahead of the sum", x.join(0, 0), 2);
        DUE.is("sum", x.join(0, 1), 5);
        DUE.is("5 in 8", x.mate(0, 0), 3);
        x = posts(new int[] {3, 3}, new int[] {3});
        DUE.is("none is last", x.mate(0, 0), 2);
        DUE.is("idle one", x.mate(0, 1), NONE);
        DUE.is("idle tenons", x.look(6), 1);
        DUE.is("idle holes", x.look(5), 0);
        x = posts(new int[] {3, 4}, new int[] {4});
        DUE.is("the better one", x.mate(0, 1), 2);
        DUE.is("the worse one", x.mate(0, 0), NONE);
    }

    private static void forcedPairs() {
        FrameReader x = posts(new int[] {5, 4}, new int[] {5, 8, 4});
        DUE.is("both", x.join(0, 2), 2);
        DUE.is("tenon's", x.forced(0, 0), 1);
        DUE.is("hole's", x.forced(0, 4), 1);
        DUE.is("idle", x.forced(0, 3), NONE);
        x = posts(new int[] {3, 3}, new int[] {3});
        DUE.is("other tenon will do", x.forced(0, 0), 0);
        DUE.is("none", x.join(0, 2), 0);
        x = posts(new int[] {3}, new int[] {3, 3});
        DUE.is("other hole will do", x.forced(0, 0), 0);
        x = posts(new int[] {3}, new int[] {3, 4});
        DUE.is("other hole is larger", x.forced(0, 0), 1);
    }

    private static void olderFrame() {
        FrameReader x = posts(new int[] {3, 3}, new int[] {3});
        x.joint(2, 5, 1, 5);
        x.joint(2, 6, 0, 2);
        x.joint(1, 1, 1, 2);
        DUE.is("custom 1 fits nothing", x.join(1, 0), 0);
        DUE.is("idle holes", x.look(5), 1);
        Feeder.custom(x, 0, "post into beam;slack 0;");
        DUE.is("older lines", Feeder.custom(x, 1, "post into beam;beam into post;slack 3;"), 3);
        DUE.is("by custom 0", x.mate(0, 0), 2);
        DUE.is("by custom 1", x.mate(1, 1), 3);
        DUE.is("in custom 0 it is idle", x.mate(0, 1), NONE);
        DUE.is("in custom 1 it is idle", x.mate(1, 0), NONE);
        DUE.is("tenon 4", x.mate(1, 4), 5);
        DUE.is("pairs", x.join(1, 0), 2);
        DUE.is("sum", x.join(1, 1), 2);
        DUE.is("forced among the idle ones", x.join(1, 2), 2);
        DUE.is("reused", x.look(4), 1);
        DUE.is("idle holes", x.look(5), 0);
        DUE.is("idle tenons", x.look(6), 0);
        DUE.is("frame of 0", x.frameOf(0, 1), NONE);
        DUE.is("frame of 1", x.frameOf(1, 1), 0);
        DUE.is("members", x.frame(1, 0, 0), 6);
        DUE.is("pairs of it", x.frame(1, 0, 1), 2);
        Feeder.mark(x, 1, "IV");
        Feeder.mark(x, 3, "IIII");
        DUE.is("numbers by custom 1", x.mate(1, 1), 3);
        Feeder.custom(x, 1, "post into beam;four add;slack 3;");
        DUE.is("no number", x.mate(1, 1), NONE);
    }

    private static void wrongAsks() {
        FrameReader x = posts(new int[] {3, 3}, new int[] {3});
        for (int c : new int[] {-1, 2, BIG, SMALL}) {
            DUE.is("join", x.join(c, 0), NONE);
            DUE.is("mate", x.mate(c, 0), NONE);
            DUE.is("forced", x.forced(c, 0), NONE);
            DUE.is("frameOf", x.frameOf(c, 0), NONE);
            DUE.is("frame", x.frame(c, 0, 0), NONE);
            DUE.is("orders", x.orders(c, 0), NONE);
            DUE.is("raised", x.raised(c, 0, 0), NONE);
            DUE.is("date", x.date(c, 0, 0), NONE);
            DUE.is("built", x.built(c, 0, 3), NONE);
            DUE.is("write", x.write(c), NONE);
        }
        for (int n : new int[] {-1, 48, BIG, SMALL}) {
            DUE.is("join what", x.join(0, n), NONE);
            DUE.is("mate of", x.mate(0, n), NONE);
            DUE.is("forced of", x.forced(0, n), NONE);
            DUE.is("frameOf", x.frameOf(0, n), NONE);
            DUE.is("frame", x.frame(0, n, 0), NONE);
            DUE.is("frame what", x.frame(0, 0, n), NONE);
            DUE.is("orders", x.orders(0, n), NONE);
            DUE.is("raised", x.raised(0, n, 0), NONE);
            DUE.is("raised i", x.raised(0, 0, n), NONE);
            DUE.is("date", x.date(0, n, 0), NONE);
            DUE.is("built", x.built(0, n, 3), NONE);
            DUE.is("built what", x.built(0, 0, n), NONE);
            DUE.is("leans", x.leans(n, 0), -1000);
            DUE.is("falls", x.falls(n, 0), NONE);
            DUE.is("lean", x.lean(n, 0, 0), false);
        }
        DUE.is("join 4", x.join(0, 4), NONE);
        DUE.is("frame 4", x.frame(0, 0, 4), NONE);
        DUE.is("built 4", x.built(0, 0, 4), NONE);
        DUE.is("in none", x.frameOf(0, 1), NONE);
        DUE.is("in 0", x.frameOf(0, 0), 0);
        x.days(1);
        x.timber(1, 9);
        x.joint(3, 0, 1, 3);
        x.timber(1, 9);
        DUE.is("both now", x.join(0, 0), 2);
        x.view(0);
        DUE.is("one then", x.join(0, 0), 1);
        DUE.is("not seen", x.mate(0, 3), NONE);
        DUE.is("not seen", x.frameOf(0, 3), NONE);
        x.view(-1);
        DUE.is("seen", x.frameOf(0, 3), 1);
    }

    private static void framesByLeast() {
        FrameReader x = posts(new int[] {1, 5, 9}, new int[] {9, 5, 1});
        DUE.is("three", x.join(0, 3), 3);
        int[] sets = {1 | 1 << 5, 2 | 1 << 4, 4 | 1 << 3};
        for (int f = 0; f < 3; f++) {
            DUE.is("set", x.frame(0, f, 0), sets[f]);
            DUE.is("of its least", x.frameOf(0, f), f);
            DUE.is("of its other", x.frameOf(0, 5 - f), f);
            DUE.is("orders", x.orders(0, f), 2);
            DUE.is("first", x.raised(0, f, 0), f);
            DUE.is("second", x.raised(0, f, 1), 5 - f);
            DUE.is("no third", x.raised(0, f, 2), NONE);
            DUE.is("most", x.frame(0, f, 2), 1);
        }
        DUE.is("no fourth", x.frame(0, 3, 0), NONE);
    }

    /** A beam 0 with HOLES for posts 1 to 3; the rafter 4 into the first post. */
    private static FrameReader bent(String custom) {
        FrameReader x = new FrameReader();
        x.timber(1, 20);
        for (int i = 0; i < 3; i++) {
            x.timber(0, 9);
            x.joint(0, i, 1, 3);
            x.joint(i + 1, 0, 0, 3);
        }
        x.timber(2, 9);
        x.joint(4, 0, 0, 7);
        x.joint(1, 9, 1, 7);
        Feeder.custom(x, 0, "post into beam;rafter into post;" + custom);
        return x;
    }

    private static void raisings() {
        FrameReader x = bent("post ahead beam;beam ahead rafter;");
        DUE.is("members", x.frame(0, 0, 0), 31);
        DUE.is("pairs", x.frame(0, 0, 1), 4);
        DUE.is("posts, then beam and rafter: not mates", x.orders(0, 0), 30);
        DUE.is("can be", x.frame(0, 0, 3), 1);
        // A post needs a prop till its beam stands (the first also till its rafter does, by hold 2).
        DUE.is("most", x.frame(0, 0, 2), 3);
        x = bent("post ahead beam;");
        int[] first = {1, 2, 3, 0, 4};
        for (int i = 0; i < 5; i++) {
            DUE.is("step " + i, x.raised(0, 0, i), first[i]);
        }
        x = bent("post ahead beam;hold 1;");
        DUE.is("one mate holds", x.frame(0, 0, 2), 2);
        int[] rafterEarly = {1, 2, 4, 3, 0};
        for (int i = 0; i < 5; i++) {
            DUE.is("hold 1 step " + i, x.raised(0, 0, i), rafterEarly[i]);
        }
        x = bent("post ahead beam;hold 0;");
        DUE.is("no props", x.frame(0, 0, 2), 0);
        x = bent("");
        DUE.is("all orders", x.orders(0, 0), 120);
        x = bent("hold 1;");
        DUE.is("one at a time", x.frame(0, 0, 2), 1);
        int[] free = {0, 1, 2, 3, 4};
        for (int i = 0; i < 5; i++) {
            DUE.is("free step " + i, x.raised(0, 0, i), free[i]);
        }
        x = bent("post ahead rafter;rafter ahead post;beam ahead post;");
        DUE.is("only beam ahead", x.orders(0, 0), 30);
        DUE.is("beam first unless the rafter", x.raised(0, 0, 0), 0);
    }

    /** Post 0, beam 1, rafter 2, each the MATE of both others. */
    private static void notRaised() {
        FrameReader x = new FrameReader();
        for (int t = 0; t < 3; t++) {
            x.timber(t, 9);
            x.joint(t, 0, 0, 2 + 3 * t);
            x.joint(t, 0, 1, 2 + 3 * ((t + 2) % 3));
        }
        String into = "post into beam;beam into rafter;rafter into post;";
        Feeder.custom(x, 0, into + "post ahead beam;beam ahead rafter;rafter ahead post;");
        DUE.is("pairs", x.join(0, 0), 3);
        DUE.is("no orders", x.orders(0, 0), 0);
        DUE.is("can't be", x.frame(0, 0, 3), 0);
        DUE.is("no most", x.frame(0, 0, 2), NONE);
        DUE.is("no steps", x.raised(0, 0, 0), NONE);
        Feeder.custom(x, 0, into + "post ahead beam;beam ahead rafter;");
        DUE.is("one order", x.orders(0, 0), 1);
        DUE.is("most", x.frame(0, 0, 2), 2);
        Feeder.custom(x, 0, into + "hold 1;");
        DUE.is("six orders", x.orders(0, 0), 6);
        DUE.is("most", x.frame(0, 0, 2), 1);
        Feeder.custom(x, 0, into + "post ahead post;");
        DUE.is("not ahead of itself", x.orders(0, 0), 6);
    }

    private static void wholeHouse() {
        FrameReader x = new FrameReader();
        for (int t = 0; t < 16; t++) {
            x.timber(0, 9);
            x.joint(t, 0, 0, 5);
            x.joint(t, 9, 1, 5);
        }
        Feeder.custom(x, 0, "post into post;hold 1;");
        DUE.is("pairs", x.join(0, 0), 16);
        DUE.is("frames of two", x.join(0, 3), 8);
        DUE.is("the last", x.frame(0, 7, 0), 3 << 14);
        FrameReader y = new FrameReader();
        for (int t = 0; t < 16; t++) {
            y.timber(0, 9);
        }
        for (int t = 1; t < 16; t++) {
            y.joint((t - 1) / 5, 0, 1, 1 + t % 9);
            y.joint(t, 0, 0, 1 + t % 9);
            String signs = new String[] {"I", "II", "III'"}[t / 9 % 3];
            Feeder.mark(y, 2 * t - 2, signs);
            Feeder.mark(y, 2 * t - 1, signs);
        }
        Feeder.custom(y, 0, "post into post;slack 0;hold 1;");
        DUE.is("tree pairs", y.join(0, 0), 15);
        DUE.is("all forced", y.join(0, 2), 15);
        DUE.is("one frame", y.frame(0, 0, 0), 65535);
        DUE.is("16 in all orders", y.orders(0, 0), 20922789888000L);
        DUE.is("one prop", y.frame(0, 0, 2), 1);
        for (int i = 0; i < 16; i++) {
            DUE.is("by number", y.raised(0, 0, i), i);
        }
        DUE.is("no 17th", y.raised(0, 0, 16), NONE);
    }

    private static FrameReader sample(int from, String masterWidths, String widths) {
        FrameReader x = new FrameReader();
        x.timber(0, 9);
        for (int i = 0; i < masterWidths.length(); i++) {
            x.master(from + i, masterWidths.charAt(i) == '-' ? NONE : masterWidths.charAt(i) - '0');
        }
        for (int i = 0; i < widths.length(); i++) {
            x.ring(0, widths.charAt(i) - '0');
        }
        return x;
    }

    private static void dueDate(String name, FrameReader x, int... want) {
        for (int what = 0; what < 7; what++) {
            DUE.is(name + " " + what, x.date(0, 0, what), what < want.length ? want[what] : NONE);
        }
        DUE.is(name + " 7", x.date(0, 0, 7), NONE);
        DUE.is(name + " -1", x.date(0, 0, -1), NONE);
    }

    private static void dates() {
        dueDate("one ring", sample(0, "12345", "1"));
        dueDate("no ring", sample(0, "12345", ""));
        dueDate("too long", sample(0, "12", "123"));
        dueDate("a gap", sample(0, "12-34", "123"));
        dueDate("at the first years", sample(0, "132", "132"), 2, 2, 1, 12, 999, 12, 999);
        dueDate("at the last years", sample(197, "132", "576"), 199, 2, 1, 209, 999, 209, 999);
        dueDate("level steps", sample(50, "3355", "2244"), 53, 3, 1, 63, 999, 63, 999);
        dueDate("the earliest, not sure", sample(50, "12121", "12"), 51, 1, 0);
        FrameReader x = sample(50, "12121", "12");
        Feeder.custom(x, 0, "margin 0;");
        dueDate("margin 0", x, 51, 1, 1, 61, 999, 61, 999);
        x = sample(50, "1234", "121");
        dueDate("half agree, a rival", x, 52, 1, 0);
        x = sample(50, "123", "121");
        dueDate("half agree", x, 52, 1, 0);
        Feeder.custom(x, 0, "level 50;");
        dueDate("half is enough", x, 52, 1, 1, 62, 999, 62, 999);
        Feeder.custom(x, 0, "level 51;");
        dueDate("half is too little", x, 52, 1, 0);
        x = sample(50, "321", "123");
        Feeder.custom(x, 0, "level 0;margin 9;");
        dueDate("none agrees, no other", x, 52, 0, 1, 62, 999, 62, 999);
        x = sample(50, "1234321", "1234");
        dueDate("margin", x, 53, 3, 1, 63, 999, 63, 999);
        Feeder.custom(x, 0, "margin 2;");
        dueDate("margin 2", x, 53, 3, 0);
        x = sample(10, "12-3212345", "2123");
        dueDate("a later one", x, 17, 3, 1, 27, 999, 27, 999);
        x.days(1);
        x.ring(0, 5);
        x.view(0);
        dueDate("without the later ring", x, 17, 3, 1, 27, 999, 27, 999);
        x.view(1);
        DUE.is("with it", x.date(0, 0, 1), 4);
        x.master(12, 2);
        x.view(0);
        DUE.is("the master in all views", x.date(0, 0, 0), 17);
        x.master(17, -1);
        DUE.is("without its last year", x.date(0, 0, 0), 16);
        DUE.is("it agrees less", x.date(0, 0, 1), 2);
    }

    private static void spans() {
        FrameReader x = sample(100, "123432", "123432");
        x.sap(0, 6, false);
        dueDate("sapwood", x, 105, 5, 1, 109, 129, 109, 131);
        x.sap(0, 24, false);
        dueDate("above the rings: all are", x, 105, 5, 1, 109, 129, 109, 131);
        x.sap(0, 3, true);
        dueDate("bark", x, 105, 5, 1, 105, 105, 105, 107);
        x.sap(0, 0, true);
        dueDate("bark without sapwood", x, 105, 5, 1, 105, 105, 105, 107);
        Feeder.custom(x, 0, "sap 2 to 4;stock 99;");
        x.sap(0, 6, false);
        dueDate("more than any", x, 105, 5, 1, 105, 105, 105, 204);
        x.sap(0, 3, false);
        dueDate("some left", x, 105, 5, 1, 105, 106, 105, 205);
        x.sap(0, 0, false);
        dueDate("open", x, 105, 5, 1, 107, 999, 107, 999);
    }

    private static void dueBuilt(String name, FrameReader x, int... want) {
        for (int what = 0; what < 4; what++) {
            DUE.is(name + " " + what, x.built(0, 0, what), want[what]);
        }
        DUE.is(name + " -1", x.built(0, 0, -1), NONE);
    }

    /** A bent with THE MASTER for the years from 100 on. */
    private static FrameReader ringed() {
        FrameReader x = bent("sap 2 to 6;stock 3;");
        for (int i = 0; i < WIDTHS.length; i++) {
            x.master(100 + i, WIDTHS[i]);
        }
        return x;
    }

    /** TIMBER t's rings are n of the MASTER's. */
    private static void rings(FrameReader x, int t, int from, int n) {
        for (int i = 0; i < n; i++) {
            x.ring(t, WIDTHS[from + i]);
        }
    }

    private static void buildings() {
        FrameReader x = ringed();
        dueBuilt("none sure", x, NONE, NONE, 0, 0);
        rings(x, 0, 0, 5);
        x.sap(0, 0, true);
        dueBuilt("one", x, 104, 107, 0, 1);
        rings(x, 1, 0, 7);
        x.sap(1, 0, true);
        dueBuilt("two", x, 106, 107, 0, 2);
        rings(x, 2, 1, 9);
        x.sap(2, 0, true);
        dueBuilt("no third there", x, 106, 107, 1, 3);
        rings(x, 3, 0, 8);
        x.sap(3, 1, false);
        dueBuilt("three there", x, 109, 109, 1, 4);
        x.sap(3, 0, false);
        dueBuilt("an open one", x, 109, 109, 1, 4);
        x.sap(2, 0, false);
        x.sap(1, 0, false);
        x.sap(0, 0, false);
        dueBuilt("all open", x, 111, 999, 0, 4);
        rings(x, 4, 0, 2);
        DUE.is("not sure: a rival", x.date(0, 4, 2), 0);
        dueBuilt("it does not count", x, 111, 999, 0, 4);
        x = ringed();
        rings(x, 0, 0, 5);
        x.sap(0, 0, true);
        rings(x, 1, 0, 9);
        x.sap(1, 0, true);
        dueBuilt("as many, though others, without a break", x, 104, 111, 1, 2);
    }

    private static void dueLeans(String name, FrameReader x, int... want) {
        for (int what = 0; what < 5; what++) {
            DUE.is(name + " " + what, x.leans(0, what), want[what]);
        }
        DUE.is(name + " 5", x.leans(0, 5), -1000);
        DUE.is(name + " -1", x.leans(0, -1), -1000);
    }

    private static void leans() {
        FrameReader x = new FrameReader();
        DUE.is("of none", x.lean(0, 5, 5), false);
        x.timber(0, 9);
        dueLeans("none", x, 0, -1000, -1000, -1000, -1000);
        int[][] wrong = {{-1, 0}, {1000, 0}, {0, -100}, {0, 100}, {BIG, 0}, {0, SMALL}};
        for (int[] w : wrong) {
            DUE.is("lean " + w[0] + " " + w[1], x.lean(0, w[0], w[1]), false);
        }
        DUE.is("lean", x.lean(0, 500, -99), true);
        dueLeans("one", x, 1, 500, -99, -1000, -1000);
        DUE.is("lean", x.lean(0, 500, 99), true);
        dueLeans("told anew", x, 1, 500, 99, -1000, -1000);
        DUE.is("lean", x.lean(0, 0, 3), true);
        dueLeans("an earlier year told later", x, 2, 500, 99, 24, 125);
        x.days(1);
        x.lean(0, 250, -90);
        dueLeans("one between", x, 3, 500, 99, 24, 125);
        x.lean(0, 500, 1);
        dueLeans("told anew later", x, 3, 500, 1, -1, 250);
        x.view(0);
        dueLeans("as it was", x, 2, 500, 99, 24, 125);
        x.view(1);
        x.lean(0, 999, 3);
        dueLeans("level", x, 4, 999, 3, 0, 1);
        x.timber(1, 9);
        x.lean(1, 999, 9);
        dueLeans("another timber's", x, 4, 999, 3, 0, 1);
        x.view(0);
        DUE.is("a timber not seen", x.leans(1, 0), -1000);
        DUE.is("but told", x.lean(1, 998, 9), true);
    }

    private static void leanLimit() {
        FrameReader x = new FrameReader();
        x.timber(0, 9);
        x.timber(0, 9);
        for (int i = 0; i < 60; i++) {
            DUE.is("lean", x.lean(i % 2, 7, i), true);
        }
        DUE.is("the 61st", x.lean(0, 8, 5), false);
        DUE.is("years", x.leans(0, 0), 1);
        DUE.is("the last told", x.leans(0, 2), 58);
        DUE.is("the other", x.leans(1, 2), 59);
    }

    private static FrameReader leaning(int year, int far, int laterYear, int laterFar) {
        FrameReader x = new FrameReader();
        x.timber(0, 9);
        x.lean(0, year, far);
        x.lean(0, laterYear, laterFar);
        return x;
    }

    private static void falls() {
        FrameReader x = leaning(100, 0, 103, 1);
        DUE.is("not at the bound itself", x.falls(0, 2), 107);
        DUE.is("beyond 1", x.falls(0, 1), 104);
        DUE.is("already", x.falls(0, 0), 103);
        DUE.is("-1", x.falls(0, -1), NONE);
        DUE.is("1000", x.falls(0, 1000), NONE);
        DUE.is("999", x.falls(0, 999), 3098);
        x = leaning(0, 10, 999, 9);
        DUE.is("to the other side, 9999 at most", x.falls(0, 9), NONE);
        DUE.is("to the other side", x.falls(0, 0), 999);
        x = leaning(990, 99, 999, 0);
        DUE.is("through to the other side", x.falls(0, 0), 1000);
        DUE.is("99 beyond", x.falls(0, 99), 1009);
        x = leaning(0, -20, 10, -10);
        DUE.is("back from one side", x.falls(0, 9), 10);
        DUE.is("at the last one", x.falls(0, 10), 31);
        DUE.is("farther", x.falls(0, 15), 36);
        x = leaning(5, 4, 9, 4);
        DUE.is("never", x.falls(0, 4), NONE);
        DUE.is("now", x.falls(0, 3), 9);
        x = leaning(0, 0, 900, 90);
        DUE.is("in 9991", x.falls(0, 999), 9991);
        x = leaning(8, 0, 18, 1);
        DUE.is("in 9999", x.falls(0, 999), 9999);
        x = leaning(9, 0, 19, 1);
        DUE.is("in 10000", x.falls(0, 999), NONE);
        x = leaning(0, 1, 999, 98);
        DUE.is("past 9999", x.falls(0, 999), NONE);
        x = new FrameReader();
        x.timber(0, 9);
        x.lean(0, 5, 99);
        DUE.is("one year", x.falls(0, 3), NONE);
        x = leaning(0, 91, 9, 99);
        DUE.is("exactly", x.falls(0, 99), 10);
    }

    private static void writing() {
        FrameReader x = posts(new int[] {5, 4}, new int[] {5, 8, 4});
        DUE.is("bytes", x.write(0), 10);
        DUE.is("text", Feeder.outText(x), "0-2!;1-4!;");
        DUE.is("none such", x.write(3), NONE);
        DUE.is("stays", Feeder.outText(x), "0-2!;1-4!;");
        DUE.is("out -1", x.out(-1), NONE);
        DUE.is("out 10", x.out(10), NONE);
        DUE.is("out big", x.out(BIG), NONE);
        DUE.is("nothing", x.write(1), 0);
        DUE.is("no text", x.out(0), NONE);
        x = new FrameReader();
        for (int t = 0; t < 8; t++) {
            x.timber(t < 4 ? 0 : 1, 9);
            for (int i = 0; i < 6; i++) {
                x.joint(t, i, t < 4 ? 0 : 1, 5);
            }
        }
        Feeder.custom(x, 0, "post into beam;");
        StringBuilder all = new StringBuilder();
        for (int i = 0; i < 24; i++) {
            all.append(i).append('-').append(i + 24).append(';');
        }
        DUE.is("24 pairs", x.join(0, 0), 24);
        DUE.is("bytes", x.write(0), all.length());
        DUE.is("text", Feeder.outText(x), all.toString());
    }
}
