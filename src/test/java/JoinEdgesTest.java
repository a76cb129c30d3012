import java.util.Arrays;

/**
 * The sentences of promises 11 to 23, 32 and 33 that name a boundary, each with a test of its own: on the boundary,
 * one below and one above. The number ahead of each call is the promise's.
 */
public final class JoinEdgesTest {
    private static final int NONE = FrameReader.NONE;
    private static final int BIG = Integer.MAX_VALUE;
    private static final int SMALL = Integer.MIN_VALUE;
    private static final long ALL = (1L << 40) - 2;
    private static final int[] NO_CUSTOM = {SMALL, -2, -1, 2, 3, BIG};
    private static final Due DUE = new Due("JoinEdgesTest");

    private JoinEdgesTest() {
    }

    public static void main(String[] args) {
        looks();
        reusedAndIdle();
        idleOfEachSort();
        customsOfNoKind();
        ofTimbers();
        atJoints();
        readsOfAll();
        readsFromOneTo39();
        foursAndNines();
        allMarks();
        fitsBySizes();
        fitsByKinds();
        fitsByNumbersAndSides();
        fitsOfNone();
        joinsOfNone();
        joinsFromNoneToAll();
        bestOfSeveral();
        matesOfNone();
        forcedOrNot();
        askedAgain();
        olderJoin();
        framesOfTwo();
        framesOfNone();
        eightFrames();
        sixteenInOne();
        propsByHold();
        leastMost();
        ordersByKinds();
        raisedSteps();
        framesApart();
        olderFrame();
        cannotBeRaised();
        writtenNumbers();
        outOfBytes();
        outStays();
        DUE.end();
    }

    /** Posts, each with one TENON, and beams, each with one HOLE, of these sizes. */
    private static FrameReader posts(int[] tenons, int[] holes, String custom) {
        FrameReader x = new FrameReader();
        for (int size : tenons) {
            x.joint(x.timber(0, 9), 0, 0, size);
        }
        for (int size : holes) {
            x.joint(x.timber(1, 9), 0, 1, size);
        }
        Feeder.custom(x, 0, custom);
        return x;
    }

    private static FrameReader pair() {
        return posts(new int[] {3}, new int[] {3}, "post into beam;");
    }

    /** 24 TENONS 0 .. 23 in four posts, 24 HOLES in four beams; each TENON fits just the HOLE 24 behind it. */
    private static FrameReader house() {
        FrameReader x = new FrameReader();
        for (int t = 0; t < 8; t++) {
            x.timber(t / 4, 9);
        }
        for (int j = 0; j < 48; j++) {
            x.joint(j / 6, 0, j / 24, 1 + j % 24 % 9);
            Feeder.mark(x, j, "I".repeat(1 + j % 24 / 9));
        }
        Feeder.custom(x, 0, "post into beam;slack 0;");
        return x;
    }

    /** 11: "NONE for another what." */
    private static void looks() {
        FrameReader x = pair();
        x.days(7);
        int[] want = {7, NONE, 2, 2, 0, 0, 0};
        for (int what = 0; what < want.length; what++) {
            DUE.is("11: look " + what, x.look(what), want[what]);
        }
        for (int what : new int[] {SMALL, -2, -1, 7, 8, BIG}) {
            DUE.is("11: look " + what, x.look(what), NONE);
        }
        x.view(0);
        DUE.is("11: the view", x.look(1), 0);
        DUE.is("11: the day still", x.look(0), 7);
        x.view(-1);
        DUE.is("11: all", x.look(1), NONE);
    }

    /** 11: "4 REUSED ones, 5 idle HOLES (in no JOIN), 6 idle TENONS", from none to all of them. */
    private static void reusedAndIdle() {
        FrameReader x = house();
        DUE.is("11: none idle", x.look(5), 0);
        DUE.is("11: none idle", x.look(6), 0);
        DUE.is("11: none reused", x.look(4), 0);
        x.custom(0);
        DUE.is("11: all idle", x.look(5), 24);
        DUE.is("11: all idle", x.look(6), 24);
        Feeder.custom(x, 1, "post into beam;slack 0;");
        DUE.is("11: in the older join", x.look(5), 0);
        DUE.is("11: in the older join", x.look(6), 0);
        DUE.is("11: not in both", x.look(4), 0);
        for (int i = 0; i < 6; i++) {
            Feeder.mark(x, i, "IV'");
            Feeder.mark(x, 24 + i, i < 5 ? "V'" : "IV'");
        }
        Feeder.custom(x, 0, "post into beam;slack 0;");
        DUE.is("11: five idle, in both by custom 1", x.look(5), 5);
        DUE.is("11: five idle", x.look(6), 5);
        FrameReader y = posts(new int[] {3, 5}, new int[] {3, 6}, "post into beam;slack 0;");
        DUE.is("11: one pair", y.look(4), 0);
        Feeder.custom(y, 1, "post into beam;");
        DUE.is("11: two pairs of other timbers", y.look(4), 0);
        y.joint(0, 1, 1, 9);
        y.joint(3, 1, 0, 9);
        Feeder.custom(y, 1, "beam into post;");
        DUE.is("11: post 0 in both, beam 3 in one", y.look(4), 1);
        y.joint(2, 1, 0, 9);
        y.joint(0, 1, 1, 9);
        DUE.is("11: beam 2 too", y.look(4), 2);
    }

    /** 11: "5 idle HOLES (in no JOIN), 6 idle TENONS", as many of the one and of the other. */
    private static void idleOfEachSort() {
        for (int tenons = 0; tenons <= 3; tenons++) {
            for (int holes = 0; holes <= 3; holes++) {
                int[] threes = {3, 3, 3};
                FrameReader x = posts(Arrays.copyOf(threes, tenons), Arrays.copyOf(threes, holes), "");
                String call = tenons + " tenons, " + holes + " holes";
                DUE.is("11: all idle, " + call, x.look(5), holes);
                DUE.is("11: all idle, " + call, x.look(6), tenons);
                Feeder.custom(x, 1, "post into beam;");
                DUE.is("11: idle, " + call, x.look(5), Math.max(0, holes - tenons));
                DUE.is("11: idle, " + call, x.look(6), Math.max(0, tenons - holes));
            }
        }
    }

    /** 12: "NONE if there is none such." */
    private static void customsOfNoKind() {
        FrameReader x = new FrameReader();
        Feeder.custom(x, 0, "post into post;brace into brace;post ahead beam;brace ahead rafter;stock 5;");
        for (int c : NO_CUSTOM) {
            DUE.is("12: custom " + c, x.customs(c, 0), NONE);
        }
        for (int what : new int[] {SMALL, -1, 9, 26, 27, 29, 46, 47, BIG}) {
            DUE.is("12: what " + what, x.customs(0, what), NONE);
        }
        int[][] want = {{8, 5}, {10, 1}, {11, 0}, {24, 0}, {25, 1}, {30, 0}, {31, 1}, {44, 1}, {45, 0}};
        for (int[] w : want) {
            DUE.is("12: what " + w[0], x.customs(0, w[0]), w[1]);
        }
        DUE.is("12: of 1", x.customs(1, 8), 2);
    }

    /** 13: "NONE if there is none such, or another what." */
    private static void ofTimbers() {
        FrameReader x = new FrameReader();
        DUE.is("13: of 0 of none", x.of(0, 0), NONE);
        x.timber(1, 9);
        x.days(3);
        x.timber(2, 8);
        int[] want = {2, 8, 0, 0, 0, 0, 3};
        for (int what = 0; what < want.length; what++) {
            DUE.is("13: of 1 what " + what, x.of(1, what), want[what]);
        }
        for (int what : new int[] {SMALL, -1, 7, 8, BIG}) {
            DUE.is("13: what " + what, x.of(0, what), NONE);
        }
        for (int t : new int[] {SMALL, -1, 2, 3, 16, BIG}) {
            DUE.is("13: of " + t, x.of(t, 0), NONE);
        }
        x.view(2);
        DUE.is("13: of 0 on 2", x.of(0, 0), 1);
        DUE.is("13: of 1 on 2", x.of(1, 0), NONE);
        DUE.is("13: of 1 on 3", x.view(3) ? x.of(1, 0) : NONE, 2);
    }

    /** 14: "10 + i sign i (a byte). NONE if there is none such, or another what." */
    private static void atJoints() {
        FrameReader x = pair();
        DUE.is("14: no sign", x.at(0, 10), NONE);
        Feeder.mark(x, 0, "X?V'");
        int[] want = {0, 0, 0, 3, 3, 1, NONE, NONE, NONE, NONE, 'X', '?', 'V', NONE, NONE, NONE, NONE, NONE};
        for (int what = 0; what < want.length; what++) {
            DUE.is("14: what " + what, x.at(0, what), want[what]);
        }
        for (int what : new int[] {SMALL, SMALL + 9, SMALL + 10, -1, -10, 9, BIG - 10, BIG}) {
            DUE.is("14: what " + what, x.at(0, what), NONE);
        }
        for (int j : new int[] {SMALL, -1, 2, 3, 48, BIG}) {
            DUE.is("14: at " + j, x.at(j, 0), NONE);
            DUE.is("14: sign of " + j, x.at(j, 10), NONE);
        }
        x.days(1);
        x.joint(1, 5, 1, 4);
        x.view(0);
        DUE.is("14: at 1 on 0", x.at(1, 3), 3);
        DUE.is("14: at 2 on 0", x.at(2, 3), NONE);
    }

    /** 15: "A JOINT without a MARK READS all (1 .. 39)"; "NONE if there are none such in THE VIEW". */
    private static void readsOfAll() {
        FrameReader x = pair();
        DUE.is("15: all", x.reads(0, 0), ALL);
        Feeder.mark(x, 0, "I");
        DUE.is("15: one sign", x.reads(0, 0), 2);
        Feeder.mark(x, 0, "'");
        DUE.is("15: a side alone", x.reads(0, 0), ALL);
        for (int c : NO_CUSTOM) {
            DUE.is("15: custom " + c, x.reads(c, 0), NONE);
        }
        for (int j : new int[] {SMALL, -1, 2, 48, BIG}) {
            DUE.is("15: joint " + j, x.reads(0, j), NONE);
        }
        x.days(1);
        x.joint(0, 0, 0, 1);
        DUE.is("15: joint 2", x.reads(0, 2), ALL);
        x.view(0);
        DUE.is("15: joint 2 on 0", x.reads(0, 2), NONE);
        DUE.is("15: joint 1 on 0", x.reads(0, 1), ALL);
    }

    /** 15, Terms: "A number 1 .. 39 is WRITTEN": none and 40 are none; those of 7 signs are no MARKS. */
    private static void readsFromOneTo39() {
        for (int n = 1; n <= 39; n++) {
            FrameReader x = pair();
            for (String writing : Model.writings(n, 3)) {
                boolean is = writing.length() <= 6;
                DUE.is("8: " + writing, Feeder.mark(x, 0, writing), is ? writing.length() : NONE);
                if (is) {
                    DUE.is("15: " + writing, x.reads(0, 0), 1L << n);
                }
            }
        }
        FrameReader x = pair();
        for (String none : new String[] {"XXXX", "XXXXX", "XXXXXX", "XXXXI", "IIIII", "VV", "VX", "IIX", "IIV", "IVI",
            "IXI", "VIV", "VIX", "IXX", "VIIIII", "IIIIII"}) {
            Feeder.mark(x, 0, none);
            DUE.is("15: " + none, x.reads(0, 0), 0);
        }
        Feeder.mark(x, 0, "????");
        DUE.is("15: ????", x.reads(0, 0), 1L << 4 | 1 << 8 | 1 << 13 | 1 << 17 | 1 << 22 | 1 << 24 | 1 << 26
            | 1 << 29 | 1L << 31 | 1L << 35);
    }

    /** 15, Terms: "4 IIII (four add), IV (four less), either (four both); 9 VIIII (add), IX (less), either (both)". */
    private static void foursAndNines() {
        int[] numbers = {3, 4, 5, 8, 9, 10, 13, 14, 15, 18, 19, 20, 23, 24, 25, 28, 29, 30, 33, 34, 35, 36};
        String[] fours = {"", "four add;", "four less;", "four both;"};
        for (int four = 1; four <= 3; four++) {
            FrameReader x = pair();
            Feeder.custom(x, 0, fours[four]);
            for (int n : numbers) {
                for (String writing : Model.writings(n, 3)) {
                    if (writing.length() <= 6) {
                        Feeder.mark(x, 0, writing);
                        boolean is = Model.writings(n, four).contains(writing);
                        DUE.is("15: " + writing + " by " + fours[four], x.reads(0, 0), is ? 1L << n : 0);
                    }
                }
            }
        }
    }

    /** 15: every MARK there is, by each four, with turn and without. */
    private static void allMarks() {
        Model model = new Model();
        model.joints.add(new Model.Joint(0, 0, 0, 1, 0));
        for (int four = 1; four <= 3; four++) {
            String rule = new String[] {"", "four add;", "four less;", "four both;"}[four];
            model.rules[0] = new Model.Rule();
            model.rules[1] = new Model.Rule();
            model.rules[0].four = four;
            model.rules[1].four = four;
            model.rules[1].turn = true;
            FrameReader x = null;
            for (int i = 0; i < 5460; i++) {
                if (i % 60 == 0) {
                    x = pair();
                    Feeder.custom(x, 0, rule);
                    Feeder.custom(x, 1, rule + "turn;");
                }
                String signs = signs(i);
                model.marks.clear();
                model.marks.add(new Model.Mark(0, signs, 0));
                DUE.is("8: " + signs, Feeder.mark(x, 0, signs), signs.length());
                DUE.is("15: " + signs + " by " + rule, x.reads(0, 0), model.reads(0, 0));
                DUE.is("15: " + signs + " by turn;" + rule, x.reads(1, 0), model.reads(1, 0));
            }
        }
    }

    /** Row i of all rows of 1 to 6 signs. */
    private static String signs(int i) {
        int rest = i;
        int length = 1;
        for (int rows = 4; rest >= rows; rows *= 4) {
            rest -= rows;
            length++;
        }
        StringBuilder signs = new StringBuilder();
        for (int k = 0; k < length; k++) {
            signs.append("IVX?".charAt(rest % 4));
            rest /= 4;
        }
        return signs.toString();
    }

    /** 16, Terms: "the HOLE's SIZE is the TENON's or up to slack more". */
    private static void fitsBySizes() {
        for (int slack = 0; slack <= 3; slack++) {
            for (int tenon = 1; tenon <= 9; tenon += 4) {
                FrameReader x = posts(new int[] {tenon}, new int[] {1, 2, 3, 4, 5, 6, 7, 8, 9},
                    "post into beam;slack " + slack + ";");
                for (int size = 1; size <= 9; size++) {
                    boolean is = size >= tenon && size <= tenon + slack;
                    DUE.is("16: " + tenon + " in " + size + " slack " + slack, x.fits(0, 0, size), is ? 1 : 0);
                }
            }
        }
    }

    /** 16, Terms: "a HOLE of another TIMBER .. if its TIMBER's KIND goes into that of the HOLE's". */
    private static void fitsByKinds() {
        String[] kinds = {"post", "beam", "rafter", "brace"};
        for (int k = 0; k < 4; k++) {
            FrameReader x = new FrameReader();
            for (int t = 0; t < 8; t++) {
                x.timber(t % 4, 9);
                x.joint(t, 0, 0, 5);
                x.joint(t, 9, 1, 5);
            }
            for (int m = 0; m < 4; m++) {
                Feeder.custom(x, m % 2, kinds[k] + " into " + kinds[m] + ";");
                for (int t = 0; t < 4; t++) {
                    for (int h = 0; h < 8; h++) {
                        boolean is = t == k && h % 4 == m && t != h;
                        DUE.is("16: " + t + " into " + h, x.fits(m % 2, 2 * t, 2 * h + 1), is ? 1 : 0);
                    }
                }
            }
        }
    }

    /** 16, Terms: "they have a number in both READS, and (if both have signs) the same SIDE". */
    private static void fitsByNumbersAndSides() {
        Object[][] rows = {{"", "", 1}, {"'", "", 1}, {"", "'", 1}, {"V", "", 1}, {"V'", "", 1}, {"V", "'", 1},
            {"'", "V", 1}, {"V'", "'", 1}, {"V", "V", 1}, {"V'", "V'", 1}, {"V'", "V", 0}, {"V", "V'", 0},
            {"V", "VI", 0}, {"V?", "IV", 0}, {"?V", "IV", 1}, {"IIII", "IV", 1}, {"VVV", "VVV", 0}, {"VVV", "", 0},
            {"", "XXXX", 0}, {"?", "V", 1}, {"?", "?", 1}, {"??", "?", 0}};
        FrameReader x = pair();
        for (Object[] row : rows) {
            Feeder.mark(x, 0, (String) row[0]);
            Feeder.mark(x, 1, (String) row[1]);
            DUE.is("16: " + row[0] + " with " + row[1], x.fits(0, 0, 1), (Integer) row[2]);
            DUE.is("17: " + row[0] + " with " + row[1], x.join(0, 0), (Integer) row[2]);
        }
    }

    /** 16: "Whether TENON t FITS HOLE h by CUSTOM c (idle or not): 1, 0; NONE if they are none such." */
    private static void fitsOfNone() {
        FrameReader x = posts(new int[] {3, 3}, new int[] {3}, "post into beam;");
        x.joint(0, 5, 1, 3);
        Feeder.custom(x, 1, "post into beam;post into post;");
        DUE.is("18: in the join", x.mate(0, 0), 2);
        DUE.is("16: in the join", x.fits(0, 0, 2), 1);
        DUE.is("16: idle", x.fits(0, 1, 2), 1);
        DUE.is("16: not idle any more", x.fits(1, 1, 2), 1);
        DUE.is("16: its own timber", x.fits(1, 0, 3), 0);
        DUE.is("16: another timber", x.fits(1, 1, 3), 1);
        DUE.is("16: hole first", x.fits(0, 2, 0), NONE);
        DUE.is("16: two tenons", x.fits(0, 0, 1), NONE);
        DUE.is("16: two holes", x.fits(0, 2, 3), NONE);
        for (int c : NO_CUSTOM) {
            DUE.is("16: custom " + c, x.fits(c, 0, 2), NONE);
        }
        for (int j : new int[] {SMALL, -1, 4, 48, BIG}) {
            DUE.is("16: tenon " + j, x.fits(0, j, 2), NONE);
            DUE.is("16: hole " + j, x.fits(0, 0, j), NONE);
        }
        x.days(1);
        x.joint(1, 9, 0, 3);
        x.joint(2, 9, 1, 3);
        DUE.is("16: both seen", x.fits(0, 4, 5), 1);
        x.view(0);
        DUE.is("16: hole not seen", x.fits(0, 0, 5), NONE);
        DUE.is("16: tenon not seen", x.fits(0, 4, 2), NONE);
    }

    /** 17: "NONE if there is none such, or another what." */
    private static void joinsOfNone() {
        FrameReader x = pair();
        int[] want = {1, 0, 1, 1};
        for (int what = 0; what < 4; what++) {
            DUE.is("17: join " + what, x.join(0, what), want[what]);
            DUE.is("17: older join " + what, x.join(1, what), 0);
            for (int c : NO_CUSTOM) {
                DUE.is("17: custom " + c, x.join(c, what), NONE);
            }
        }
        for (int what : new int[] {SMALL, -1, 4, 5, BIG}) {
            DUE.is("17: what " + what, x.join(0, what), NONE);
            DUE.is("17: what " + what, x.join(1, what), NONE);
        }
    }

    /** 17: from no pair to 24, from a sum of 0 to the greatest one. */
    private static void joinsFromNoneToAll() {
        DUE.is("17: no hole", posts(new int[] {3}, new int[0], "post into beam;").join(0, 0), 0);
        DUE.is("17: no tenon", posts(new int[0], new int[] {3}, "post into beam;").join(0, 0), 0);
        FrameReader x = house();
        int[] want = {24, 0, 24, 4};
        for (int what = 0; what < 4; what++) {
            DUE.is("17: 24 pairs, what " + what, x.join(0, what), want[what]);
        }
        FrameReader y = new FrameReader();
        for (int j = 0; j < 48; j++) {
            if (j % 6 == 0) {
                y.timber(j / 24, 9);
            }
            y.joint(j / 6, 0, j / 24, j < 24 ? 6 : 9);
        }
        for (int slack = 0; slack <= 3; slack++) {
            Feeder.custom(y, 0, "post into beam;slack " + slack + ";");
            DUE.is("17: slack " + slack, y.join(0, 0), slack == 3 ? 24 : 0);
            DUE.is("17: the sum", y.join(0, 1), slack == 3 ? 72 : 0);
            DUE.is("17: none is forced", y.join(0, 2), 0);
            DUE.is("17: frames", y.join(0, 3), slack == 3 ? 4 : 0);
        }
        for (int j = 0; j < 24; j++) {
            DUE.is("18: by order", y.mate(0, j), 24 + j);
        }
    }

    /** 17, 18, Terms: "the most pairs; of several the least sum ..; of these the first .. (.., none last)". */
    private static void bestOfSeveral() {
        String slack = "post into beam;slack 3;";
        FrameReader x = posts(new int[] {5, 2}, new int[] {5, 8}, slack);
        DUE.is("17: two pairs ahead of a sum of 0", x.join(0, 0), 2);
        DUE.is("17: their sum", x.join(0, 1), 6);
        x = posts(new int[] {5, 1}, new int[] {5, 8}, slack);
        DUE.is("17: one pair", x.join(0, 0), 1);
        DUE.is("17: its sum", x.join(0, 1), 0);
        x = posts(new int[] {5, 5}, new int[] {8, 5}, slack);
        DUE.is("17: two pairs", x.join(0, 1), 3);
        DUE.is("18: the lesser hole first", x.mate(0, 0), 2);
        x = posts(new int[] {5, 4}, new int[] {6, 5}, slack);
        DUE.is("17: the same sum either way", x.join(0, 1), 2);
        DUE.is("18: the lesser hole for the first", x.mate(0, 0), 2);
        DUE.is("18: the other", x.mate(0, 1), 3);
        x = posts(new int[] {5}, new int[] {6, 5}, slack);
        DUE.is("18: one size less", x.mate(0, 0), 2);
        x = posts(new int[] {5}, new int[] {6, 6}, slack);
        DUE.is("18: the same size", x.mate(0, 0), 1);
        x = posts(new int[] {5, 5, 5}, new int[] {5, 5}, slack);
        DUE.is("18: first", x.mate(0, 0), 3);
        DUE.is("18: second", x.mate(0, 1), 4);
        DUE.is("18: none last", x.mate(0, 2), NONE);
        x = posts(new int[] {4, 5, 5}, new int[] {5, 5}, slack);
        DUE.is("18: none for the first, by the sum", x.mate(0, 0), NONE);
        DUE.is("18: the others", x.mate(0, 1), 3);
    }

    /** 18: "NONE if it is idle, or there is none such." 19: "NONE likewise." */
    private static void matesOfNone() {
        FrameReader x = posts(new int[] {3, 3}, new int[] {3}, "post into beam;");
        int[] mates = {2, NONE, 0};
        int[] forced = {0, NONE, 0};
        for (int j = 0; j < 3; j++) {
            DUE.is("18: mate of " + j, x.mate(0, j), mates[j]);
            DUE.is("19: forced " + j, x.forced(0, j), forced[j]);
            DUE.is("18: older mate of " + j, x.mate(1, j), NONE);
            DUE.is("19: older forced " + j, x.forced(1, j), NONE);
        }
        for (int c : NO_CUSTOM) {
            DUE.is("18: custom " + c, x.mate(c, 0), NONE);
            DUE.is("19: custom " + c, x.forced(c, 0), NONE);
        }
        for (int j : new int[] {SMALL, -1, 3, 47, 48, BIG}) {
            DUE.is("18: mate of " + j, x.mate(0, j), NONE);
            DUE.is("19: forced " + j, x.forced(0, j), NONE);
        }
        x.days(1);
        x.joint(2, 0, 1, 3);
        DUE.is("18: a second hole", x.mate(0, 3), 1);
        DUE.is("19: a second hole", x.forced(0, 3), 0);
        x.view(0);
        DUE.is("18: not seen", x.mate(0, 3), NONE);
        DUE.is("19: not seen", x.forced(0, 3), NONE);
        DUE.is("18: no mate seen", x.mate(0, 1), NONE);
        DUE.is("17: one pair seen", x.join(0, 0), 1);
        x.joint(0, 5, 0, 4);
        x.joint(2, 5, 1, 4);
        DUE.is("17: one pair still", x.join(0, 0), 1);
        DUE.is("11: no idle hole seen", x.look(5), 0);
        DUE.is("11: one idle tenon seen", x.look(6), 1);
        DUE.is("17: all", x.view(1) ? x.join(0, 0) : NONE, 3);
    }

    /** 19, Terms: "A pair is FORCED, if it is in all JOINS of as many pairs with as little a sum." */
    private static void forcedOrNot() {
        for (int other = 2; other <= 4; other++) {
            FrameReader x = posts(new int[] {3}, new int[] {3, other}, "post into beam;");
            DUE.is("19: the other hole's size " + other, x.forced(0, 0), other == 3 ? 0 : 1);
            x = posts(new int[] {3, other}, new int[] {3}, "post into beam;");
            DUE.is("19: the other tenon's size " + other, x.forced(0, 2), other == 3 ? 0 : 1);
        }
        FrameReader x = posts(new int[] {3, 3}, new int[] {3, 4}, "post into beam;slack 0;");
        DUE.is("19: another tenon will do", x.forced(0, 0), 0);
        Feeder.custom(x, 0, "post into beam;slack 1;");
        DUE.is("19: both, in either way", x.join(0, 2), 0);
        Feeder.mark(x, 0, "I");
        Feeder.mark(x, 3, "V");
        DUE.is("19: both, in one way", x.join(0, 2), 2);
        DUE.is("19: as many", x.join(0, 0), 2);
    }

    /** 17 to 19: the same again after something else was asked, and anew after something was told. */
    private static void askedAgain() {
        FrameReader x = posts(new int[] {3}, new int[] {4}, "post into beam;");
        for (int i = 0; i < 3; i++) {
            DUE.is("17: pairs", x.join(0, 0), 1);
            DUE.is("17: the sum", x.join(0, 1), 1);
            DUE.is("19: forced", x.forced(0, 0), 1);
            x.view(i % 2 - 1);
        }
        x.joint(1, 5, 1, 4);
        DUE.is("19: another hole will do", x.forced(0, 0), 0);
        DUE.is("17: none forced", x.join(0, 2), 0);
        DUE.is("17: the sum", x.join(0, 1), 1);
        x.joint(1, 6, 1, 3);
        DUE.is("18: a better one", x.mate(0, 0), 3);
        DUE.is("18: idle again", x.mate(0, 1), NONE);
        DUE.is("19: forced again", x.forced(0, 3), 1);
        DUE.is("17: the sum", x.join(0, 1), 0);
        x.custom(0);
        DUE.is("17: no pair", x.join(0, 0), 0);
        DUE.is("17: no sum", x.join(0, 1), 0);
        DUE.is("17: none forced", x.join(0, 2), 0);
        DUE.is("18: idle", x.mate(0, 0), NONE);
    }

    /** 17 to 19, Terms: "By CUSTOM 1 likewise, but only with JOINTS that are in no pair .. by CUSTOM 0". */
    private static void olderJoin() {
        FrameReader x = posts(new int[] {3, 3}, new int[] {3, 3}, "post into beam;");
        Feeder.custom(x, 1, "post into beam;");
        DUE.is("17: all by 0", x.join(0, 0), 2);
        DUE.is("17: none left", x.join(1, 0), 0);
        x.joint(0, 5, 0, 3);
        DUE.is("17: a tenon left", x.join(1, 0), 0);
        x.joint(2, 5, 1, 5);
        DUE.is("17: with too large a hole", x.join(1, 0), 0);
        DUE.is("17: forced, then none", x.join(1, 2), 0);
        x.joint(3, 5, 1, 4);
        DUE.is("17: by 0, with that one", x.join(0, 0), 3);
        DUE.is("17: nothing again", x.join(1, 0), 0);
        Feeder.custom(x, 0, "post into beam;slack 0;");
        DUE.is("17: one pair left", x.join(1, 0), 1);
        DUE.is("17: its sum", x.join(1, 1), 1);
        DUE.is("19: forced among the idle ones", x.forced(1, 4), 1);
        DUE.is("19: in the other join it is not", x.forced(0, 0), 0);
        DUE.is("18: its mate", x.mate(1, 6), 4);
        DUE.is("18: not in the other join", x.mate(0, 6), NONE);
        DUE.is("18: not in this one", x.mate(1, 0), NONE);
    }

    /** 20, Terms: "the greatest sets of TIMBERS that hang together by MATES, two at least". */
    private static void framesOfTwo() {
        FrameReader x = new FrameReader();
        x.timber(0, 9);
        x.joint(0, 0, 0, 3);
        Feeder.custom(x, 0, "post into beam;");
        DUE.is("17: of one timber", x.join(0, 3), 0);
        DUE.is("20: of one timber", x.frameOf(0, 0), NONE);
        x.timber(1, 9);
        DUE.is("20: of two, one without a joint", x.frameOf(0, 0), NONE);
        x.joint(1, 0, 1, 5);
        DUE.is("20: of two that don't fit", x.frameOf(0, 0), NONE);
        x.joint(1, 0, 1, 3);
        DUE.is("20: of two", x.frameOf(0, 0), 0);
        DUE.is("20: the other", x.frameOf(0, 1), 0);
        DUE.is("21: both", x.frame(0, 0, 0), 3);
        DUE.is("21: one pair", x.frame(0, 0, 1), 1);
        x.timber(0, 9);
        DUE.is("20: a third one alone", x.frameOf(0, 2), NONE);
        x.joint(2, 0, 0, 5);
        DUE.is("20: a third one", x.frameOf(0, 2), 0);
        DUE.is("21: three", x.frame(0, 0, 0), 7);
        DUE.is("21: two pairs", x.frame(0, 0, 1), 2);
        DUE.is("17: one frame", x.join(0, 3), 1);
        x.joint(0, 0, 0, 7);
        x.joint(1, 0, 1, 7);
        DUE.is("21: two pairs of the same mates", x.frame(0, 0, 1), 3);
        DUE.is("22: they are two mates", x.orders(0, 0), 6);
    }

    /** 20 to 23: "NONE if there is none such". */
    private static void framesOfNone() {
        FrameReader x = pair();
        x.timber(2, 9);
        for (int c : NO_CUSTOM) {
            DUE.is("20: custom " + c, x.frameOf(c, 0), NONE);
            DUE.is("21: custom " + c, x.frame(c, 0, 0), NONE);
            DUE.is("22: custom " + c, x.orders(c, 0), NONE);
            DUE.is("23: custom " + c, x.raised(c, 0, 0), NONE);
        }
        for (int t : new int[] {SMALL, -1, 2, 3, 16, BIG}) {
            DUE.is("20: timber " + t, x.frameOf(0, t), NONE);
        }
        for (int f : new int[] {SMALL, -1, 1, 2, 8, BIG}) {
            for (int what = 0; what < 4; what++) {
                DUE.is("21: frame " + f, x.frame(0, f, what), NONE);
            }
            DUE.is("22: frame " + f, x.orders(0, f), NONE);
            DUE.is("23: frame " + f, x.raised(0, f, 0), NONE);
        }
        for (int what : new int[] {SMALL, -1, 4, 5, BIG}) {
            DUE.is("21: what " + what, x.frame(0, 0, what), NONE);
        }
        int[] want = {3, 1, 1, 1};
        for (int what = 0; what < 4; what++) {
            DUE.is("21: what " + what, x.frame(0, 0, what), want[what]);
            DUE.is("21: of the older frame, what " + what, x.frame(1, 0, what), NONE);
        }
        x.days(1);
        x.joint(2, 0, 1, 3);
        x.joint(0, 0, 0, 3);
        Feeder.custom(x, 0, "post into beam;post into rafter;");
        DUE.is("20: timber 2", x.frameOf(0, 2), 0);
        x.view(0);
        DUE.is("20: timber 2 on 0", x.frameOf(0, 2), NONE);
        DUE.is("21: the others on 0", x.frame(0, 0, 0), 3);
        DUE.is("32: the one pair on 0", x.write(0), 5);
    }

    /** 17, 20, 21: from one FRAME to 8 of two TIMBERS each, "numbered by their least TIMBERS". */
    private static void eightFrames() {
        for (int n = 1; n <= 8; n++) {
            FrameReader x = new FrameReader();
            for (int t = 0; t < 16; t++) {
                x.timber(t < 8 ? 0 : 1, 9);
            }
            for (int i = 8 - n; i < 8; i++) {
                x.joint(i, 0, 0, 1 + i);
                x.joint(15 - i, 0, 1, 1 + i);
            }
            Feeder.custom(x, 0, "post into beam;slack 0;");
            DUE.is("17: frames", x.join(0, 3), n);
            for (int f = 0; f < n; f++) {
                int least = 8 - n + f;
                DUE.is("21: frame " + f, x.frame(0, f, 0), 1 << least | 1 << 15 - least);
                DUE.is("20: its least", x.frameOf(0, least), f);
                DUE.is("20: its other", x.frameOf(0, 15 - least), f);
                DUE.is("22: orders", x.orders(0, f), 2);
                DUE.is("23: first", x.raised(0, f, 0), least);
                DUE.is("23: second", x.raised(0, f, 1), 15 - least);
                DUE.is("23: no third", x.raised(0, f, 2), NONE);
            }
            DUE.is("21: frame " + n, x.frame(0, n, 0), NONE);
            DUE.is("22: frame " + n, x.orders(0, n), NONE);
        }
    }

    /** 21 to 23: a FRAME of 15 and of all 16 TIMBERS, in a row: 2 to the n - 1 orders without a second start. */
    private static void sixteenInOne() {
        for (int n = 15; n <= 16; n++) {
            FrameReader x = new FrameReader();
            for (int t = 0; t < n; t++) {
                x.timber(0, 9);
            }
            for (int t = 1; t < n; t++) {
                int size = 1 + t % 2;
                Feeder.mark(x, x.joint(t - 1, 0, 0, size), "X".repeat(t / 2 / 3) + "I".repeat(1 + t / 2 % 3));
                Feeder.mark(x, x.joint(t, 0, 1, size), "X".repeat(t / 2 / 3) + "I".repeat(1 + t / 2 % 3));
            }
            Feeder.custom(x, 0, "post into post;slack 0;hold 1;");
            DUE.is("21: all", x.frame(0, 0, 0), (1 << n) - 1);
            DUE.is("21: pairs", x.frame(0, 0, 1), n - 1);
            DUE.is("19: forced", x.join(0, 2), n - 1);
            DUE.is("21: most", x.frame(0, 0, 2), 1);
            long all = 1;
            for (int t = 2; t <= n; t++) {
                all *= t;
            }
            DUE.is("22: all orders", x.orders(0, 0), all);
            for (int i = 0; i < n; i++) {
                DUE.is("23: step " + i, x.raised(0, 0, i), i);
            }
            DUE.is("23: step " + n, x.raised(0, 0, n), NONE);
            Feeder.custom(x, 0, "post into post;slack 0;hold 2;");
            DUE.is("21: the one at the end of the row", x.frame(0, 0, 2), 1);
        }
    }

    /** A post, two beams, a rafter: a ring of four MATES, the beams between the others. */
    private static FrameReader ring(String custom) {
        FrameReader x = new FrameReader();
        int[] kinds = {0, 1, 1, 2};
        for (int kind : kinds) {
            x.timber(kind, 9);
        }
        int[][] mates = {{0, 1}, {0, 2}, {1, 3}, {2, 3}};
        for (int i = 0; i < 4; i++) {
            x.joint(mates[i][0], 0, 0, 1 + 2 * i);
            x.joint(mates[i][1], 0, 1, 1 + 2 * i);
        }
        Feeder.custom(x, 0, "post into beam;beam into rafter;slack 0;" + custom);
        return x;
    }

    /** 21, Terms: "needs a PROP, if fewer of its MATES stand than hold, and not all of them". */
    private static void propsByHold() {
        String ahead = "post ahead beam;beam ahead rafter;hold ";
        int[] most = {0, 1, 2, 2, 2, 2};
        for (int hold = 0; hold <= 5; hold++) {
            FrameReader x = ring(ahead + hold + ";");
            DUE.is("21: pairs", x.frame(0, 0, 1), 4);
            DUE.is("22: orders", x.orders(0, 0), 2);
            DUE.is("21: most by hold " + hold, x.frame(0, 0, 2), most[hold]);
        }
        int[] star = {0, 3, 3, 3, 3, 3};
        for (int hold = 0; hold <= 5; hold++) {
            FrameReader x = posts(new int[] {2, 4, 6}, new int[0], "");
            x.timber(1, 9);
            for (int size = 2; size <= 6; size += 2) {
                x.joint(3, 0, 1, size);
            }
            Feeder.custom(x, 0, "post into beam;slack 0;post ahead beam;hold " + hold + ";");
            DUE.is("21: three posts by hold " + hold, x.frame(0, 0, 2), star[hold]);
            Feeder.custom(x, 0, "post into beam;slack 0;beam ahead post;hold " + hold + ";");
            DUE.is("21: the beam first by hold " + hold, x.frame(0, 0, 2), hold == 0 ? 0 : 1);
        }
    }

    /** 21, 23, Terms: "BEST RAISING: the least MOST; of several the first by the TIMBERS (the lesser first)". */
    private static void leastMost() {
        FrameReader x = ring("hold 0;");
        int[] byNumber = {0, 1, 2, 3};
        for (int i = 0; i < 4; i++) {
            DUE.is("23: no prop, step " + i, x.raised(0, 0, i), byNumber[i]);
        }
        x = ring("hold 1;");
        DUE.is("21: one prop", x.frame(0, 0, 2), 1);
        for (int i = 0; i < 4; i++) {
            DUE.is("23: one prop, step " + i, x.raised(0, 0, i), byNumber[i]);
        }
        x = ring("beam ahead post;beam ahead rafter;hold 1;");
        DUE.is("21: both beams first", x.frame(0, 0, 2), 2);
        DUE.is("22: orders", x.orders(0, 0), 4);
        int[] beams = {1, 2, 0, 3};
        for (int i = 0; i < 4; i++) {
            DUE.is("23: beams, step " + i, x.raised(0, 0, i), beams[i]);
        }
        x = ring("post ahead beam;rafter ahead beam;hold 1;");
        DUE.is("21: post and rafter first", x.frame(0, 0, 2), 2);
        DUE.is("23: the rafter second", x.raised(0, 0, 1), 3);
    }

    /** 22, Terms: "of each two MATES, if the one's KIND is ahead of the other's, the one comes ahead". */
    private static void ordersByKinds() {
        Object[][] rows = {{"", 2, 0, 1}, {"post ahead beam;", 1, 0, 1}, {"beam ahead post;", 1, 1, 0},
            {"post ahead beam;beam ahead post;", 2, 0, 1}, {"post ahead post;", 2, 0, 1},
            {"rafter ahead post;brace ahead beam;", 2, 0, 1}};
        for (Object[] row : rows) {
            FrameReader x = posts(new int[] {3}, new int[] {3}, "post into beam;" + row[0]);
            DUE.is("22: " + row[0], x.orders(0, 0), (Integer) row[1]);
            DUE.is("21: can be", x.frame(0, 0, 3), 1);
            DUE.is("23: first by " + row[0], x.raised(0, 0, 0), (Integer) row[2]);
            DUE.is("23: second by " + row[0], x.raised(0, 0, 1), (Integer) row[3]);
        }
        DUE.is("22: no mates, no order between them", ring("post ahead rafter;").orders(0, 0), 24);
        DUE.is("22: post ahead of both beams", ring("post ahead beam;").orders(0, 0), 8);
    }

    /** 23: "The i-th TIMBER of its BEST RAISING; NONE if there is none such." */
    private static void raisedSteps() {
        FrameReader x = pair();
        DUE.is("23: step 0", x.raised(0, 0, 0), 0);
        DUE.is("23: step 1", x.raised(0, 0, 1), 1);
        for (int i : new int[] {SMALL, SMALL + 1, -16, -1, 2, 3, 15, 16, 17, 32, BIG}) {
            DUE.is("23: step " + i, x.raised(0, 0, i), NONE);
        }
        FrameReader y = posts(new int[] {1, 5}, new int[] {1, 5}, "post into beam;slack 0;");
        DUE.is("23: ahead of frame 1", y.raised(0, 1, -1), NONE);
        DUE.is("23: frame 1", y.raised(0, 1, 0), 1);
        DUE.is("23: frame 1", y.raised(0, 1, 1), 3);
        DUE.is("23: behind frame 0", y.raised(0, 0, 16), NONE);
    }

    /** POSTS that are MATES two by two, each two by a TENON and a HOLE of a SIZE of their own. */
    private static FrameReader linked(int timbers, int[][] mates, String custom) {
        FrameReader x = new FrameReader();
        for (int t = 0; t < timbers; t++) {
            x.timber(0, 9);
        }
        for (int i = 0; i < mates.length; i++) {
            x.joint(mates[i][0], 0, 0, 1 + i);
            x.joint(mates[i][1], 0, 1, 1 + i);
        }
        Feeder.custom(x, 0, "post into post;slack 0;" + custom);
        return x;
    }

    private static void dueSteps(String call, FrameReader x, int c, int f, int... want) {
        for (int i = 0; i <= want.length; i++) {
            DUE.is(call + " step " + i, x.raised(c, f, i), i < want.length ? want[i] : NONE);
        }
    }

    /** 21 to 23: what is told of one FRAME has nothing of another, larger one. */
    private static void framesApart() {
        FrameReader x = linked(6, new int[][] {{0, 1}, {1, 2}, {2, 0}, {3, 4}, {4, 5}}, "hold 2;");
        for (int i = 0; i < 2; i++) {
            DUE.is("21: a ring of three", x.frame(0, 0, 2), 2);
            DUE.is("21: a row of three", x.frame(0, 1, 2), 1);
            dueSteps("23: ring", x, 0, 0, 0, 1, 2);
            dueSteps("23: row", x, 0, 1, 3, 4, 5);
            x.view(-1);
        }
        FrameReader y = linked(4, new int[][] {{0, 2}, {2, 1}, {1, 3}}, "hold 1;");
        DUE.is("21: a row", y.frame(0, 0, 2), 1);
        dueSteps("23: not 1 behind 0", y, 0, 0, 0, 2, 1, 3);
        FrameReader z = linked(3, new int[][] {{0, 1}, {1, 2}}, "hold 2;");
        z.days(1);
        z.timber(0, 9);
        z.joint(2, 0, 0, 9);
        z.joint(3, 0, 1, 9);
        DUE.is("21: four", z.frame(0, 0, 2), 1);
        Feeder.custom(z, 0, "post into post;slack 0;hold 0;");
        z.view(0);
        DUE.is("21: three", z.frame(0, 0, 2), 0);
        DUE.is("22: three", z.orders(0, 0), 6);
        dueSteps("23: three", z, 0, 0, 0, 1, 2);
    }

    /** 20 to 23: of a FRAME by CUSTOM 1 what CUSTOM 1 says. */
    private static void olderFrame() {
        FrameReader x = new FrameReader();
        for (int t = 0; t < 3; t++) {
            x.timber(t % 2, 9);
        }
        int[][] joints = {{0, 0, 1}, {1, 1, 1}, {1, 0, 5}, {0, 1, 5}, {1, 0, 7}, {2, 1, 7}};
        for (int[] j : joints) {
            x.joint(j[0], 0, j[1], j[2]);
        }
        Feeder.custom(x, 0, "post into beam;beam ahead post;hold 0;");
        Feeder.custom(x, 1, "beam into post;post ahead beam;hold 1;");
        int[][] want = {{3, 1, 0, 1}, {7, 2, 2, 1}};
        for (int c = 0; c < 2; c++) {
            for (int what = 0; what < 4; what++) {
                DUE.is("21: custom " + c + " what " + what, x.frame(c, 0, what), want[c][what]);
            }
            DUE.is("22: custom " + c, x.orders(c, 0), c + 1);
            DUE.is("20: beam by " + c, x.frameOf(c, 1), 0);
        }
        dueSteps("23: custom 0", x, 0, 0, 1, 0);
        dueSteps("23: custom 1", x, 1, 0, 0, 2, 1);
        DUE.is("20: not by 0", x.frameOf(0, 2), NONE);
        DUE.is("20: by 1", x.frameOf(1, 2), 0);
        DUE.is("11: reused", x.look(4), 2);
        DUE.is("32: by 1", x.write(1), 10);
        DUE.is("33: by 1", Feeder.outText(x), "2-3!;4-5!;");
    }

    /** 21 to 23: "3 1 if it can be raised, else 0", "NONE .. for 2 it can't"; no order, no step. */
    private static void cannotBeRaised() {
        FrameReader x = new FrameReader();
        for (int t = 0; t < 3; t++) {
            x.timber(t, 9);
            x.joint(t, 0, 0, 2 + 3 * t);
            x.joint(t, 0, 1, 2 + 3 * ((t + 2) % 3));
        }
        String into = "post into beam;beam into rafter;rafter into post;";
        String[] ahead = {"post ahead beam;", "beam ahead rafter;", "rafter ahead post;"};
        int[] orders = {6, 3, 1, 0};
        String text = into;
        for (int n = 0; n <= 3; n++) {
            Feeder.custom(x, 0, text);
            DUE.is("22: orders by " + text, x.orders(0, 0), orders[n]);
            DUE.is("21: can be by " + text, x.frame(0, 0, 3), n < 3 ? 1 : 0);
            DUE.is("21: most by " + text, x.frame(0, 0, 2), n < 3 ? 2 : NONE);
            DUE.is("21: members", x.frame(0, 0, 0), 7);
            DUE.is("21: pairs", x.frame(0, 0, 1), 3);
            for (int i = 0; i < 3; i++) {
                DUE.is("23: step " + i + " by " + text, x.raised(0, 0, i), n < 3 ? i : NONE);
            }
            text += ahead[Math.min(n, 2)];
        }
        Feeder.custom(x, 0, into + ahead[0] + ahead[1] + ahead[2] + "post ahead rafter;");
        DUE.is("22: told both ways it can be", x.orders(0, 0), 1);
    }

    /** 32, Terms: "the TENON's number, -, the HOLE's, ! if it is FORCED, ;" with numbers of one digit and of two. */
    private static void writtenNumbers() {
        FrameReader x = house();
        StringBuilder all = new StringBuilder();
        for (int i = 0; i < 24; i++) {
            all.append(i).append('-').append(i + 24).append("!;");
        }
        DUE.is("32: the longest", x.write(0), 158);
        DUE.is("32: its text", Feeder.outText(x), all.toString());
        DUE.is("33: the last", x.out(157), ';');
        DUE.is("33: behind it", x.out(158), NONE);
        for (int ahead = 7; ahead <= 10; ahead++) {
            FrameReader y = new FrameReader();
            y.timber(0, 9);
            y.timber(1, 9);
            y.timber(1, 9);
            y.timber(1, 9);
            for (int i = 0; i < ahead; i++) {
                y.joint(1 + i % 3, 0, 1, 9);
            }
            y.joint(0, 0, 0, 3);
            y.joint(3, 0, 1, 3);
            Feeder.custom(y, 0, "post into beam;");
            String want = ahead + "-" + (ahead + 1) + "!;";
            DUE.is("32: " + want, y.write(0), want.length());
            DUE.is("32: text", Feeder.outText(y), want);
        }
        FrameReader z = posts(new int[] {3, 3, 5}, new int[] {3, 5}, "post into beam;slack 0;");
        DUE.is("32: one forced", z.write(0), 9);
        DUE.is("32: text", Feeder.outText(z), "0-3;2-4!;");
    }

    /** 33: "Byte i of OUT; NONE if there is none." */
    private static void outOfBytes() {
        FrameReader x = pair();
        DUE.is("33: ahead of write", x.out(0), NONE);
        DUE.is("32: five bytes", x.write(0), 5);
        String text = "0-1!;";
        for (int i = 0; i < 5; i++) {
            DUE.is("33: byte " + i, x.out(i), text.charAt(i));
        }
        for (int i : new int[] {SMALL, -2, -1, 5, 6, 199, 200, 201, BIG}) {
            DUE.is("33: byte " + i, x.out(i), NONE);
        }
        DUE.is("32: nothing", x.write(1), 0);
        DUE.is("33: of nothing", x.out(0), NONE);
    }

    /** 32: "NONE, and OUT stays, if there is none such." */
    private static void outStays() {
        FrameReader x = pair();
        x.write(0);
        for (int c : NO_CUSTOM) {
            DUE.is("32: custom " + c, x.write(c), NONE);
            DUE.is("33: out stays", Feeder.outText(x), "0-1!;");
        }
        Feeder.custom(x, 0, "");
        DUE.is("33: stays till it is written anew", Feeder.outText(x), "0-1!;");
        x.days(1);
        DUE.is("32: no pair any more", x.write(0), 0);
        DUE.is("33: nothing", Feeder.outText(x), "");
    }
}
