/** Promises 1 to 16 and 24 to 26: what is told, refused and seen again. */
public final class TellingTest {
    private static final int NONE = FrameReader.NONE;
    private static final int BIG = Integer.MAX_VALUE;
    private static final int SMALL = Integer.MIN_VALUE;
    private static final long ALL = (1L << 40) - 2;
    private static final Due DUE = new Due("TellingTest");

    private TellingTest() {
    }

    public static void main(String[] args) {
        newObject();
        days();
        views();
        timbers();
        joints();
        tape();
        marks();
        markLimit();
        customDefaults();
        customLines();
        customFaults();
        customLineLimit();
        reads();
        fits();
        masterRingSap();
        DUE.end();
    }

    private static void newObject() {
        FrameReader x = new FrameReader();
        DUE.is("NONE", NONE, -1);
        int[] look = {0, -1, 0, 0, 0, 0, 0, NONE};
        for (int what = 0; what < look.length; what++) {
            DUE.is("new look " + what, x.look(what), look[what]);
        }
        DUE.is("new look -1", x.look(-1), NONE);
        DUE.is("new fault 0", x.fault(0), 0);
        DUE.is("new fault 1", x.fault(1), NONE);
        DUE.is("new fault 2", x.fault(2), NONE);
        DUE.is("new fault -1", x.fault(-1), NONE);
        DUE.is("new out", x.out(0), NONE);
        DUE.is("new end 0", x.end(0), true);
        DUE.is("new end 1", x.end(1), false);
    }

    private static void days() {
        FrameReader x = new FrameReader();
        for (int n : new int[] {0, -1, 1001, BIG, SMALL}) {
            DUE.is("days " + n, x.days(n), NONE);
        }
        DUE.is("days 1", x.days(1), 1);
        for (int i = 1; i <= 9; i++) {
            DUE.is("days 1000", x.days(1000), 1 + 1000 * i);
        }
        DUE.is("days past 9999", x.days(999), NONE);
        DUE.is("DAY stays", x.look(0), 9001);
        DUE.is("days to 9999", x.days(998), 9999);
        DUE.is("days behind", x.days(1), NONE);
        DUE.is("DAY at the end", x.look(0), 9999);
    }

    private static void views() {
        FrameReader x = new FrameReader();
        x.timber(0, 10);
        x.days(2);
        x.timber(1, 10);
        x.joint(0, 0, 0, 1);
        DUE.is("view now + 1", x.view(3), false);
        DUE.is("view -2", x.view(-2), false);
        DUE.is("view stays", x.look(1), NONE);
        DUE.is("view 1", x.view(1), true);
        DUE.is("look 1", x.look(1), 1);
        DUE.is("look 0 in a view", x.look(0), 2);
        DUE.is("timbers in 1", x.look(2), 1);
        DUE.is("joints in 1", x.look(3), 0);
        DUE.is("of 0 in 1", x.of(0, 2), 0);
        DUE.is("of 1 in 1", x.of(1, 0), NONE);
        DUE.is("at 0 in 1", x.at(0, 0), NONE);
        DUE.is("joint told in a view", x.joint(1, 0, 1, 1), 1);
        DUE.is("timber told in a view", x.timber(2, 5), 2);
        DUE.is("view 2", x.view(2), true);
        DUE.is("timbers in 2", x.look(2), 3);
        DUE.is("of 0 joints in 2", x.of(0, 2), 1);
        DUE.is("told later on that day", x.timber(3, 7), 3);
        DUE.is("it too", x.look(2), 4);
        x.days(1);
        x.timber(3, 8);
        DUE.is("not of the next day", x.look(2), 4);
        DUE.is("view all", x.view(-1), true);
        DUE.is("all", x.look(2), 5);
        DUE.is("came on", x.of(1, 6), 2);
        DUE.is("came on 0", x.of(0, 6), 0);
    }

    private static void timbers() {
        FrameReader x = new FrameReader();
        int[][] wrong = {{-1, 5}, {4, 5}, {0, 0}, {0, 100}, {BIG, 5}, {0, SMALL}};
        for (int[] w : wrong) {
            DUE.is("timber " + w[0] + " " + w[1], x.timber(w[0], w[1]), NONE);
        }
        for (int i = 0; i < 16; i++) {
            DUE.is("timber", x.timber(i % 4, i == 0 ? 1 : 99), i);
        }
        DUE.is("17th", x.timber(0, 1), NONE);
        DUE.is("of kind", x.of(15, 0), 3);
        DUE.is("of length", x.of(0, 1), 1);
        DUE.is("of 15 length", x.of(15, 1), 99);
        for (int what : new int[] {-1, 7, BIG, SMALL}) {
            DUE.is("of " + what, x.of(0, what), NONE);
        }
        for (int t : new int[] {-1, 16, BIG, SMALL}) {
            DUE.is("of none", x.of(t, 0), NONE);
        }
    }

    private static void joints() {
        FrameReader x = new FrameReader();
        x.timber(0, 7);
        int[][] wrong = {{1, 0, 0, 1}, {-1, 0, 0, 1}, {0, -1, 0, 1}, {0, 8, 0, 1}, {0, 0, -1, 1}, {0, 0, 2, 1},
            {0, 0, 0, 0}, {0, 0, 0, 10}};
        for (int[] w : wrong) {
            DUE.is("wrong joint", x.joint(w[0], w[1], w[2], w[3]), NONE);
        }
        for (int i = 0; i < 6; i++) {
            DUE.is("joint", x.joint(0, i == 5 ? 7 : 0, i % 2, i == 0 ? 1 : 9), i);
        }
        DUE.is("7th of a timber", x.joint(0, 0, 0, 1), NONE);
        for (int i = 1; i < 9; i++) {
            x.timber(1, 9);
        }
        for (int i = 6; i < 48; i++) {
            DUE.is("joint", x.joint(i / 6, 3, 0, 2), i);
        }
        DUE.is("49th", x.joint(8, 3, 0, 2), NONE);
        DUE.is("look 3", x.look(3), 48);
        int[] at = {0, 7, 1, 9, 0, 0, NONE, NONE, NONE, NONE, NONE};
        for (int what = 0; what < at.length; what++) {
            DUE.is("at 5 " + what, x.at(5, what), at[what]);
        }
        DUE.is("at 47 timber", x.at(47, 0), 7);
        for (int j : new int[] {-1, 48, BIG, SMALL}) {
            DUE.is("at none", x.at(j, 0), NONE);
        }
        for (int what : new int[] {-1, BIG, SMALL}) {
            DUE.is("at what " + what, x.at(0, what), NONE);
        }
        DUE.is("joints of 0", x.of(0, 2), 6);
    }

    private static void tape() {
        FrameReader x = new FrameReader();
        x.timber(0, 9);
        x.joint(0, 0, 0, 1);
        for (int i = 1; i <= 40; i++) {
            DUE.is("feed", x.feed(0x49490000, -1, SMALL, BIG, 0), 20 * i);
        }
        DUE.is("feed past 800", x.feed(0, 0, 0, 0, 0), NONE);
        DUE.is("end -1", x.end(-1), false);
        DUE.is("end 801", x.end(801), false);
        DUE.is("end 800", x.end(800), true);
        DUE.is("end 781", x.end(781), true);
        DUE.is("feed to 801", x.feed(0, 0, 0, 0, 0), NONE);
        DUE.is("end 2", x.end(2), true);
        DUE.is("end 3", x.end(3), false);
        DUE.is("the highest first", x.mark(0), 2);
        DUE.is("empty behind mark", x.end(1), false);
        x.feed(0, 0, 0, 0, 0);
        DUE.is("zeros", x.mark(0), NONE);
        DUE.is("empty behind no mark", x.end(1), false);
        x.feed(0, 0, 0, 0, 0);
        DUE.is("no such joint", x.mark(1), NONE);
        DUE.is("empty behind no joint", x.end(1), false);
        x.feed(0, 0, 0, 0, 0);
        DUE.is("a fault", x.custom(1), NONE);
        DUE.is("empty behind a fault", x.end(1), false);
        Feeder.feed(x, "turn;");
        DUE.is("no such custom", x.custom(2), NONE);
        DUE.is("empty behind no custom", x.end(1), false);
        Feeder.feed(x, "turn;");
        DUE.is("no such custom", x.custom(-1), NONE);
        DUE.is("empty behind no custom", x.end(1), false);
        DUE.is("the fault stays", x.fault(0), 1);
        DUE.is("its place", x.fault(1), 0);
    }

    private static void marks() {
        FrameReader x = new FrameReader();
        x.timber(0, 9);
        x.joint(0, 0, 0, 1);
        x.joint(0, 0, 1, 1);
        for (String wrong : new String[] {"IIIIIII", "IIIIIII'", "A", " I", "I ", "I'I", "''", "i", "I''", "\u00ff"}) {
            DUE.is("mark " + wrong, Feeder.mark(x, 0, wrong), NONE);
        }
        DUE.is("none yet", x.at(0, 4), 0);
        DUE.is("mark X?VI'", Feeder.mark(x, 0, "X?VI'"), 4);
        int[] signs = {'X', '?', 'V', 'I', NONE};
        for (int i = 0; i < signs.length; i++) {
            DUE.is("sign " + i, x.at(0, 10 + i), signs[i]);
        }
        DUE.is("side", x.at(0, 5), 1);
        DUE.is("the other one's", x.at(1, 5), 0);
        DUE.is("six signs", Feeder.mark(x, 1, "XXXVII"), 6);
        DUE.is("the sixth", x.at(1, 15), 'I');
        DUE.is("no seventh", x.at(1, 16), NONE);
        DUE.is("six and a side", Feeder.mark(x, 1, "XXXVII'"), 6);
        DUE.is("its side", x.at(1, 5), 1);
        x.days(3);
        DUE.is("another one", Feeder.mark(x, 0, "I"), 1);
        DUE.is("side again", x.at(0, 5), 0);
        x.view(2);
        DUE.is("the old one in 2", x.at(0, 4), 4);
        DUE.is("its side in 2", x.at(0, 5), 1);
        DUE.is("told in a view", Feeder.mark(x, 0, ""), 0);
        DUE.is("the old one still", x.at(0, 4), 4);
        x.view(3);
        DUE.is("the new one in 3", x.at(0, 4), 0);
        x.days(1);
        x.joint(0, 1, 1, 1);
        DUE.is("any that came", Feeder.mark(x, 2, "V"), 1);
        DUE.is("not in the view", x.at(2, 4), NONE);
        DUE.is("no such joint", Feeder.mark(x, 3, "V"), NONE);
        DUE.is("no joint -1", Feeder.mark(x, -1, "V"), NONE);
    }

    private static void markLimit() {
        FrameReader x = new FrameReader();
        x.timber(0, 9);
        x.joint(0, 0, 0, 1);
        DUE.is("not counted", x.mark(1), NONE);
        DUE.is("nor this", Feeder.mark(x, 0, "Q"), NONE);
        for (int i = 0; i < 199; i++) {
            DUE.is("mark", x.mark(0), 0);
        }
        DUE.is("the 200th", Feeder.mark(x, 0, "VI"), 2);
        DUE.is("the 201st", Feeder.mark(x, 0, "I"), NONE);
        DUE.is("empty then", x.end(1), false);
        DUE.is("the 200th stays", x.at(0, 4), 2);
    }

    private static void customDefaults() {
        FrameReader x = new FrameReader();
        int[] first = {3, 0, 1, 2, 60, 1, 10, 30, 2};
        for (int round = 0; round < 2; round++) {
            for (int what = 0; what < 50; what++) {
                int want = what < 9 ? first[what] : what >= 10 && what < 26 || what >= 30 && what < 46 ? 0 : NONE;
                DUE.is("customs " + what, x.customs(0, what), want);
                DUE.is("customs " + what, x.customs(1, what), want);
            }
            String text = "four less;turn;slack 3;post into post;brace ahead post;hold 5;level 99;margin 9;sap 0 to 0;"
                + "stock 99;";
            DUE.is("lines", Feeder.custom(x, round, text), 10);
            DUE.is("no lines", x.custom(round), 0);
        }
        DUE.is("customs 2", x.customs(2, 0), NONE);
        DUE.is("customs -1", x.customs(-1, 0), NONE);
        DUE.is("what -1", x.customs(0, -1), NONE);
        DUE.is("what big", x.customs(0, BIG), NONE);
    }

    private static void customLines() {
        FrameReader x = new FrameReader();
        String text = "four add;four less\n;turn  ;slack2;slack 03;post into brace;brace into post;rafter ahead beam;"
            + "hold 5;level 00;margin 9;sap 7to 07;stock 9 9";
        DUE.is("ends wrong", Feeder.custom(x, 0, text), NONE);
        DUE.is("fault", x.fault(0), 1);
        DUE.is("at the second 9", x.fault(1), text.length() - 1);
        DUE.is("stays", x.customs(0, 0), 3);
        text = text.substring(0, text.length() - 2) + ";\n";
        DUE.is("13 lines", Feeder.custom(x, 0, text), 13);
        DUE.is("no fault", x.fault(0), 0);
        DUE.is("no place", x.fault(1), NONE);
        int[] want = {2, 1, 3, 5, 0, 9, 7, 7, 9};
        for (int what = 0; what < want.length; what++) {
            DUE.is("told " + what, x.customs(0, what), want[what]);
        }
        for (int k = 0; k < 4; k++) {
            for (int m = 0; m < 4; m++) {
                boolean into = k == 0 && m == 3 || k == 3 && m == 0;
                DUE.is("into " + k + m, x.customs(0, 10 + 4 * k + m), into ? 1 : 0);
                DUE.is("ahead " + k + m, x.customs(0, 30 + 4 * k + m), k == 2 && m == 1 ? 1 : 0);
            }
        }
        DUE.is("the other one", x.customs(1, 0), 3);
        Feeder.custom(x, 1, "post ahead beam;beam ahead post;post ahead beam;brace ahead brace;beam ahead brace;");
        DUE.is("told both ways", x.customs(1, 31), 0);
        DUE.is("told both ways", x.customs(1, 34), 0);
        DUE.is("ahead of itself", x.customs(1, 45), 0);
        DUE.is("one way", x.customs(1, 37), 1);
        DUE.is("four add", Feeder.custom(x, 1, "four add;"), 1);
        DUE.is("add", x.customs(1, 0), 1);
        DUE.is("ahead ahead of its lines", x.customs(1, 37), 0);
        DUE.is("blanks", Feeder.custom(x, 1, " \n "), 0);
        DUE.is("slack 0", Feeder.custom(x, 1, "slack 0;hold 0;margin 0;sap 0 to 99;level 0;stock 0;"), 6);
        DUE.is("sap second", x.customs(1, 7), 99);
    }

    private static void customFaults() {
        Object[][] faults = {
            {";", 1, 0}, {"turn;;", 1, 5}, {"turns;", 1, 0}, {"Turn;", 1, 0}, {"turN;", 1, 0}, {"turn\t;", 1, 4},
            {"four;", 1, 4}, {"four turn;", 1, 5}, {"four", 1, 4}, {"four  ", 1, 6}, {"add;", 1, 0},
            {"to 5;", 1, 0}, {"into post;", 1, 0}, {"ahead;", 1, 0}, {"7;", 1, 0}, {"post;", 1, 4},
            {"post turn", 1, 5}, {"post into;", 1, 9}, {"post into into;", 1, 10}, {"post into post post;", 1, 15},
            {"post intopost;", 1, 5}, {"slack;", 1, 5}, {"slack -1;", 1, 6}, {"slack 100;", 1, 6},
            {"slack 4;", 2, 6}, {"slack 99", 2, 6}, {"slack 3 3;", 1, 8}, {"hold 6;", 2, 5}, {"hold 06;", 2, 5},
            {"margin 10;", 2, 7}, {"level 100;", 1, 6}, {"stock 100;", 1, 6}, {"sap 5 to 4;", 2, 9},
            {"sap 5 4;", 1, 6}, {"sap 5 to;", 1, 8}, {"sap to 4;", 1, 4}, {"sap 5 to 100;", 1, 9},
            {"turn;hold 6;slack 4;", 2, 10}, {"turn;\u00e9", 1, 5}, {"turn;\r", 1, 5}, {"turn", 1, 4},
            {"four both; turnturn ;", 1, 11}, {"brace into rafter", 1, 17}, {"slack x;", 1, 6}, {"slack 1a;", 1, 7},
            {"hold 000;", 1, 5}, {"fourfour add;", 1, 0}, {"turnz;", 1, 0}, {"turnA;", 1, 0},
            {"turnZ;", 1, 0}, {"turn@;", 1, 4}, {"rafterx into post;", 1, 0}, {"\0", 1, 0},
        };
        FrameReader x = new FrameReader();
        Feeder.custom(x, 0, "stock 42;");
        int calls = 0;
        for (Object[] f : faults) {
            DUE.is("custom " + f[0], Feeder.custom(x, 0, (String) f[0]), NONE);
            DUE.is("fault of " + f[0], x.fault(0), (Integer) f[1]);
            DUE.is("place of " + f[0], x.fault(1), (Integer) f[2]);
            calls += 6;
            if (calls > 480) {
                x = new FrameReader();
                Feeder.custom(x, 0, "stock 42;");
                calls = 0;
            }
        }
        DUE.is("stays", x.customs(0, 8), 42);
        Feeder.custom(x, 1, "");
        DUE.is("no fault", x.fault(0), 0);
        DUE.is("no place", x.fault(1), NONE);
    }

    private static void customLineLimit() {
        FrameReader x = new FrameReader();
        String forty = "turn;".repeat(40);
        DUE.is("40 lines", Feeder.custom(x, 0, forty), 40);
        DUE.is("41 lines", Feeder.custom(x, 0, forty + " turn;"), NONE);
        DUE.is("fault 3", x.fault(0), 3);
        DUE.is("its place", x.fault(1), 201);
        DUE.is("ahead of what is wrong in it", Feeder.custom(x, 0, forty + "slack 9"), NONE);
        DUE.is("fault 3", x.fault(0), 3);
        DUE.is("at its first word", x.fault(1), 200);
        DUE.is("what can't stand there is less", Feeder.custom(x, 0, forty + "to;"), NONE);
        DUE.is("fault 1", x.fault(0), 1);
        DUE.is("its place", x.fault(1), 200);
        DUE.is("all of the tape", Feeder.custom(x, 0, "turn ; ".repeat(39) + " ".repeat(521) + "turn;;"), NONE);
        DUE.is("fault 1", x.fault(0), 1);
        DUE.is("its place", x.fault(1), 799);
        DUE.is("all of the tape", Feeder.custom(x, 0, " ".repeat(796) + "turn"), NONE);
        DUE.is("the text's length", x.fault(1), 800);
        String saps = "sap 1 to 2 ;".repeat(40);
        DUE.is("40 long lines", Feeder.custom(x, 0, saps), 40);
        DUE.is("41 long lines", Feeder.custom(x, 0, saps + saps.substring(0, 12)), NONE);
        DUE.is("fault 3", x.fault(0), 3);
        DUE.is("its place", x.fault(1), 480);
        DUE.is("41 long lines", Feeder.custom(x, 0, saps + "12;" + saps.substring(0, 300)), NONE);
        DUE.is("fault 1", x.fault(0), 1);
        DUE.is("its place", x.fault(1), 480);
        DUE.is("a first wrong one", Feeder.custom(x, 0, "slack 7;" + forty), NONE);
        DUE.is("fault 2", x.fault(0), 2);
    }

    private static long set(int... numbers) {
        long set = 0;
        for (int n : numbers) {
            set |= 1L << n;
        }
        return set;
    }

    private static void reads() {
        FrameReader x = new FrameReader();
        x.timber(0, 9);
        x.joint(0, 0, 0, 1);
        Feeder.custom(x, 1, "four add;turn;");
        DUE.is("no mark", x.reads(0, 0), ALL);
        Object[][] rows = {
            {"I", set(1), set(1)}, {"IV", set(4), set(6)}, {"VI", set(6), set(6)}, {"IIII", set(4), set(4)},
            {"IX", set(9), set(11)}, {"XI", set(11), set(11)}, {"VIIII", set(9), set(9)}, {"IIIIV", 0L, set(9)},
            {"VX", 0L, set(15)}, {"XXXIX", set(39), 0L}, {"XXXX", 0L, 0L}, {"IXX", 0L, set(21)},
            {"?", set(1, 5, 10), set(1, 5, 10)}, {"??", set(2, 4, 6, 9, 11, 15, 20), set(2, 6, 11, 15, 20)},
            {"XXXVI?", set(37), set(37)}, {"?XXVI'", set(36), set(36)}, {"'", ALL, ALL}, {"VV", 0L, 0L},
        };
        for (Object[] row : rows) {
            Feeder.mark(x, 0, (String) row[0]);
            DUE.is("reads 0 of " + row[0], x.reads(0, 0), (Long) row[1]);
            DUE.is("reads 1 of " + row[0], x.reads(1, 0), (Long) row[2]);
        }
        DUE.is("reads of custom 2", x.reads(2, 0), NONE);
        DUE.is("reads of joint 1", x.reads(0, 1), NONE);
        DUE.is("reads of joint -1", x.reads(0, -1), NONE);
        x.days(1);
        x.joint(0, 0, 0, 1);
        x.view(0);
        DUE.is("reads of one not seen", x.reads(0, 1), NONE);
        Feeder.custom(x, 0, "four less;");
        Feeder.mark(x, 0, "IIII");
        x.view(1);
        DUE.is("by the custom as it is now", x.reads(0, 0), 0);
    }

    private static void fits() {
        FrameReader x = new FrameReader();
        x.timber(0, 9);
        x.timber(1, 9);
        x.joint(0, 0, 0, 4);
        x.joint(0, 0, 1, 4);
        int[] sizes = {3, 4, 5, 6, 7};
        for (int size : sizes) {
            x.joint(1, 0, 1, size);
        }
        DUE.is("nothing into anything", x.fits(0, 0, 3), 0);
        Feeder.custom(x, 0, "post into beam;post into post;");
        int[] one = {0, 1, 1, 0, 0};
        for (int i = 0; i < 5; i++) {
            DUE.is("slack 1 " + sizes[i], x.fits(0, 0, 2 + i), one[i]);
        }
        Feeder.custom(x, 0, "post into beam;slack 0;");
        DUE.is("slack 0", x.fits(0, 0, 4), 0);
        Feeder.custom(x, 0, "post into beam;slack 3;post into post;");
        DUE.is("slack 3", x.fits(0, 0, 6), 1);
        DUE.is("its own timber", x.fits(0, 0, 1), 0);
        DUE.is("two holes", x.fits(0, 1, 2), NONE);
        DUE.is("hole first", x.fits(0, 2, 0), NONE);
        DUE.is("no joint", x.fits(0, 0, 7), NONE);
        DUE.is("no joint", x.fits(0, -1, 2), NONE);
        DUE.is("no custom", x.fits(2, 0, 2), NONE);
        Feeder.mark(x, 0, "VI'");
        DUE.is("one with a mark", x.fits(0, 0, 3), 1);
        Feeder.mark(x, 3, "VI");
        DUE.is("other side", x.fits(0, 0, 3), 0);
        Feeder.mark(x, 3, "'");
        DUE.is("no signs", x.fits(0, 0, 3), 1);
        Feeder.mark(x, 3, "V?'");
        DUE.is("same side, a number", x.fits(0, 0, 3), 1);
        Feeder.mark(x, 3, "IV'");
        DUE.is("no number", x.fits(0, 0, 3), 0);
        Feeder.custom(x, 0, "post into beam;turn;");
        DUE.is("turned", x.fits(0, 0, 3), 1);
        x.timber(1, 9);
        x.joint(2, 0, 0, 4);
        DUE.is("beam into nothing", x.fits(0, 7, 3), 0);
        Feeder.mark(x, 0, "VVV");
        DUE.is("reads nothing", x.fits(0, 0, 3), 0);
        x.days(1);
        x.joint(1, 0, 1, 4);
        x.view(0);
        DUE.is("not seen", x.fits(0, 0, 8), NONE);
    }

    private static void masterRingSap() {
        FrameReader x = new FrameReader();
        int[][] wrong = {{-1, 5}, {200, 5}, {0, -2}, {0, 100}, {BIG, 5}, {0, BIG}};
        for (int[] w : wrong) {
            DUE.is("master " + w[0] + " " + w[1], x.master(w[0], w[1]), false);
        }
        DUE.is("master", x.master(0, 0), true);
        DUE.is("master", x.master(199, 99), true);
        DUE.is("master", x.master(7, -1), true);
        DUE.is("ring of none", x.ring(0, 5), NONE);
        DUE.is("sap of none", x.sap(0, 5, true), false);
        x.days(1);
        x.timber(0, 9);
        x.view(0);
        DUE.is("ring -1", x.ring(0, -1), NONE);
        DUE.is("ring 100", x.ring(0, 100), NONE);
        for (int i = 1; i <= 24; i++) {
            DUE.is("ring", x.ring(0, i == 1 ? 0 : 99), i);
            x.days(i == 12 ? 1 : 0);
        }
        DUE.is("25th", x.ring(0, 5), NONE);
        DUE.is("sap -1", x.sap(0, -1, false), false);
        DUE.is("sap 25", x.sap(0, 25, true), false);
        x.view(1);
        DUE.is("rings seen", x.of(0, 3), 12);
        DUE.is("sap", x.of(0, 4), 0);
        DUE.is("bark", x.of(0, 5), 0);
        DUE.is("sap 24", x.sap(0, 24, true), true);
        DUE.is("sap as told, in all views", x.of(0, 4), 24);
        DUE.is("bark", x.of(0, 5), 1);
        DUE.is("sap again", x.sap(0, 0, false), true);
        DUE.is("sap", x.of(0, 4), 0);
        DUE.is("no bark", x.of(0, 5), 0);
        x.view(-1);
        DUE.is("all rings", x.of(0, 3), 24);
    }
}
