/**
 * The sentences of promises 24 to 31 that name a boundary, each with a test of its own: on the boundary, one below and
 * one above. The number ahead of each call is the promise's.
 */
public final class YearEdgesTest {
    private static final int NONE = FrameReader.NONE;
    private static final int NO_LEAN = NONE - 999;
    private static final int BIG = Integer.MAX_VALUE;
    private static final int SMALL = Integer.MIN_VALUE;
    private static final int[] NO_CUSTOM = {SMALL, -2, -1, 2, 3, BIG};
    private static final Due DUE = new Due("YearEdgesTest");

    private YearEdgesTest() {
    }

    public static void main(String[] args) {
        masterYears();
        masterWidths();
        masterTaken();
        ringsOfTimbers();
        twentyFourRings();
        sapsOfTimbers();
        sapAboveRings();
        liesFromTwoRings();
        liesInAllYears();
        liesFromFirstToLast();
        agreeByWays();
        earliestOfMost();
        levelOrMore();
        marginOrMore();
        felledFromSap();
        felledToSap();
        openOrNot();
        usedLater();
        dateOfNone();
        builtTogether();
        builtTillABreak();
        builtOpen();
        builtOfNone();
        leanYears();
        sixtyLeans();
        leansOfYears();
        rateInLeastTerms();
        leansOfNone();
        fallsBeyondBounds();
        fallsFromTheLastOn();
        fallsTill9999();
        fallsOfNone();
        DUE.end();
    }

    private static FrameReader withTimber() {
        FrameReader x = new FrameReader();
        x.timber(0, 9);
        return x;
    }

    private static void master(FrameReader x, int from, String widths) {
        for (int i = 0; i < widths.length(); i++) {
            x.master(from + i, widths.charAt(i) == '-' ? NONE : widths.charAt(i) - '0');
        }
    }

    private static void rings(FrameReader x, int t, String widths) {
        for (int i = 0; i < widths.length(); i++) {
            x.ring(t, widths.charAt(i) - '0');
        }
    }

    private static FrameReader sample(int from, String masterWidths, String widths, String custom) {
        FrameReader x = withTimber();
        master(x, from, masterWidths);
        rings(x, 0, widths);
        Feeder.custom(x, 0, custom);
        return x;
    }

    private static void dueDate(String name, FrameReader x, int... want) {
        for (int what = 0; what < 7; what++) {
            DUE.is(name + ", what " + what, x.date(0, 0, what), what < want.length ? want[what] : NONE);
        }
    }

    /** 24: "THE MASTER's ring of a YEAR", "for some of the YEARS 0 .. 199". */
    private static void masterYears() {
        FrameReader x = withTimber();
        for (int year : new int[] {SMALL, -2, -1, 200, 201, 999, BIG}) {
            DUE.is("24: year " + year, x.master(year, 5), false);
        }
        for (int year : new int[] {0, 1, 2, 197, 198, 199}) {
            DUE.is("24: year " + year, x.master(year, 5), true);
        }
        rings(x, 0, "77");
        Feeder.custom(x, 0, "margin 0;");
        dueDate("27: at the first years", x, 1, 1, 1, 11, 999, 11, 999);
        rings(x, 0, "7");
        dueDate("27: at the first three", x, 2, 2, 1, 12, 999, 12, 999);
        x.master(0, -1);
        dueDate("27: at the last three", x, 199, 2, 1, 209, 999, 209, 999);
        rings(x, 0, "7");
        dueDate("27: no four", x);
    }

    /** 24: "a ring of a width (0 .. 99)", "(-1: none)"; "false, and nothing is done, if one can't be". */
    private static void masterWidths() {
        FrameReader x = withTimber();
        rings(x, 0, "12");
        Feeder.custom(x, 0, "margin 0;");
        x.master(10, 98);
        for (int width : new int[] {SMALL, -3, -2, 100, 101, BIG}) {
            DUE.is("24: width " + width, x.master(11, width), false);
            DUE.is("27: nothing done", x.date(0, 0, 0), NONE);
        }
        DUE.is("24: width 99", x.master(11, 99), true);
        DUE.is("27: up from 98", x.date(0, 0, 1), 1);
        DUE.is("24: width 98", x.master(11, 98), true);
        DUE.is("27: level", x.date(0, 0, 1), 0);
        DUE.is("24: width 1", x.master(11, 1), true);
        DUE.is("24: width 0", x.master(10, 0), true);
        DUE.is("27: up from 0", x.date(0, 0, 1), 1);
        for (int width : new int[] {-2, 100}) {
            DUE.is("24: width " + width, x.master(10, width), false);
            DUE.is("27: 0 stays", x.date(0, 0, 1), 1);
        }
    }

    /** 24: "(-1: none; told on any DAY it is so in all VIEWS)". */
    private static void masterTaken() {
        FrameReader x = sample(10, "123", "12", "margin 0;");
        x.days(1);
        x.view(0);
        DUE.is("24: none", x.master(10, -1), true);
        dueDate("27: without the first", x, 12, 1, 1, 22, 999, 22, 999);
        DUE.is("24: none of what was none", x.master(10, -1), true);
        DUE.is("24: none", x.master(12, -1), true);
        dueDate("27: one year left", x);
        DUE.is("24: again", x.master(10, 1), true);
        dueDate("27: two years left", x, 11, 1, 1, 21, 999, 21, 999);
        x.view(-1);
        dueDate("27: in all views", x, 11, 1, 1, 21, 999, 21, 999);
    }

    /** 25: "NONE, and nothing is done, if one can't be": a TIMBER that came, a width of 0 to 99. */
    private static void ringsOfTimbers() {
        FrameReader x = new FrameReader();
        DUE.is("25: without a timber", x.ring(0, 5), NONE);
        x.timber(0, 9);
        x.timber(0, 9);
        for (int t : new int[] {SMALL, -1, 2, 3, 16, BIG}) {
            DUE.is("25: of timber " + t, x.ring(t, 5), NONE);
        }
        for (int width : new int[] {SMALL, -2, -1, 100, 101, BIG}) {
            DUE.is("25: width " + width, x.ring(1, width), NONE);
        }
        DUE.is("13: nothing done", x.of(1, 3), 0);
        int[] widths = {0, 1, 98, 99};
        for (int i = 0; i < 4; i++) {
            DUE.is("25: width " + widths[i], x.ring(1, widths[i]), i + 1);
        }
        DUE.is("13: the other's", x.of(0, 3), 0);
        master(x, 10, "1234");
        DUE.is("27: all up", x.date(0, 1, 1), 3);
    }

    /** 25: "how many were told (whatever THE VIEW); NONE .. or there are 24". */
    private static void twentyFourRings() {
        FrameReader x = withTimber();
        x.timber(0, 9);
        x.view(0);
        for (int i = 1; i <= 24; i++) {
            x.days(1);
            DUE.is("25: a wrong one", x.ring(0, 100), NONE);
            DUE.is("25: ring " + i, x.ring(0, i % 2), i);
        }
        DUE.is("25: ring 25", x.ring(0, 1), NONE);
        DUE.is("25: ring 25 again", x.ring(0, 1), NONE);
        DUE.is("25: the other's first", x.ring(1, 1), 1);
        for (int day : new int[] {0, 1, 2, 22, 23, 24}) {
            x.view(day);
            DUE.is("13: rings on " + day, x.of(0, 3), day);
        }
        x.view(-1);
        DUE.is("13: rings in all", x.of(0, 3), 24);
        for (int year = 0; year < 23; year++) {
            x.master(year, (year + 1) % 2);
        }
        DUE.is("27: 23 years", x.date(0, 0, 0), NONE);
        x.master(23, 0);
        DUE.is("27: 24 years", x.date(0, 0, 0), 23);
        DUE.is("27: all agree", x.date(0, 0, 1), 23);
        x.view(23);
        DUE.is("27: 23 rings", x.date(0, 0, 0), 22);
        DUE.is("27: all agree", x.date(0, 0, 1), 22);
    }

    /** 26: "SAP: .. (0 .. 24; at first 0)"; "false, and nothing is done, if one can't be". */
    private static void sapsOfTimbers() {
        FrameReader x = new FrameReader();
        DUE.is("26: without a timber", x.sap(0, 5, true), false);
        x.timber(0, 9);
        x.timber(0, 9);
        for (int t : new int[] {SMALL, -1, 2, 3, 16, BIG}) {
            DUE.is("26: of timber " + t, x.sap(t, 5, true), false);
        }
        for (int n : new int[] {SMALL, -2, -1, 25, 26, BIG}) {
            DUE.is("26: sap " + n, x.sap(1, n, true), false);
        }
        DUE.is("13: sap at first", x.of(1, 4), 0);
        DUE.is("13: no bark at first", x.of(1, 5), 0);
        for (int n : new int[] {1, 23, 24, 0}) {
            DUE.is("26: sap " + n, x.sap(1, n, n % 2 == 0), true);
            DUE.is("26: sap 25", x.sap(1, 25, n % 2 != 0), false);
            DUE.is("26: sap -1", x.sap(1, -1, n % 2 != 0), false);
            DUE.is("13: sap", x.of(1, 4), n);
            DUE.is("13: bark", x.of(1, 5), n % 2 == 0 ? 1 : 0);
        }
        DUE.is("13: the other's sap", x.of(0, 4), 0);
        DUE.is("13: the other's bark", x.of(0, 5), 0);
    }

    /** 26: "(SAP above the rings: all are.)", and 13: "SAP (as it was told)". */
    private static void sapAboveRings() {
        FrameReader x = sample(100, "1234321", "12343", "margin 0;");
        x.days(1);
        rings(x, 0, "2");
        int[] told = {0, 1, 4, 5, 6, 7, 24};
        int[] inFive = {0, 1, 4, 5, 5, 5, 5};
        int[] inSix = {0, 1, 4, 5, 6, 6, 6};
        for (int i = 0; i < told.length; i++) {
            x.sap(0, told[i], false);
            DUE.is("13: sap as told", x.of(0, 4), told[i]);
            x.view(1);
            DUE.is("27: six rings, from, sap " + told[i], x.date(0, 0, 3), 105 + 10 - inSix[i]);
            DUE.is("27: six rings, to, sap " + told[i], x.date(0, 0, 4), inSix[i] == 0 ? 999 : 105 + 30 - inSix[i]);
            x.view(0);
            DUE.is("27: five rings, from, sap " + told[i], x.date(0, 0, 3), 104 + 10 - inFive[i]);
            DUE.is("27: five rings, to, sap " + told[i], x.date(0, 0, 4), inFive[i] == 0 ? 999 : 104 + 30 - inFive[i]);
            DUE.is("13: as told in all views", x.of(0, 4), told[i]);
        }
    }

    /** 27, Terms: "A SAMPLE of n rings, 2 at least, LIES". */
    private static void liesFromTwoRings() {
        dueDate("27: no ring", sample(50, "1234", "", "margin 0;"));
        dueDate("27: one ring", sample(50, "1234", "1", "margin 0;"));
        dueDate("27: two rings", sample(50, "1234", "12", "margin 0;"), 51, 1, 1, 61, 999, 61, 999);
        dueDate("27: three rings", sample(50, "1234", "123", "margin 0;"), 52, 2, 1, 62, 999, 62, 999);
        FrameReader x = sample(50, "1234", "1", "margin 0;");
        x.days(1);
        x.ring(0, 2);
        x.view(0);
        dueDate("27: one ring in the view", x);
        x.view(1);
        dueDate("27: two rings in the view", x, 51, 1, 1, 61, 999, 61, 999);
    }

    /** 27, Terms: "if THE MASTER has all YEARS e - n + 1 .. e". */
    private static void liesInAllYears() {
        dueDate("27: no master", sample(50, "", "123", ""));
        dueDate("27: one year", sample(50, "1", "123", ""));
        dueDate("27: two years", sample(50, "12", "123", ""));
        dueDate("27: three years", sample(50, "123", "123", ""), 52, 2, 1, 62, 999, 62, 999);
        dueDate("27: four years", sample(50, "0123", "123", ""), 52, 2, 0);
        dueDate("27: without the first", sample(50, "-23", "123", ""));
        dueDate("27: without the middle", sample(50, "1-3", "123", ""));
        dueDate("27: without the last", sample(50, "12-", "123", ""));
        dueDate("27: behind a gap", sample(50, "12-123", "123", ""), 55, 2, 1, 65, 999, 65, 999);
    }

    /** 27: e from n - 1 to 199. */
    private static void liesFromFirstToLast() {
        dueDate("27: from year 0", sample(0, "132", "132", ""), 2, 2, 1, 12, 999, 12, 999);
        dueDate("27: from year 1", sample(1, "132", "132", ""), 3, 2, 1, 13, 999, 13, 999);
        dueDate("27: to year 198", sample(196, "132", "132", ""), 198, 2, 1, 208, 999, 208, 999);
        dueDate("27: to year 199", sample(197, "132", "132", ""), 199, 2, 1, 209, 999, 209, 999);
        dueDate("27: past year 199", sample(198, "132", "132", ""));
    }

    /** 27, Terms: "how many of the n - 1 steps .. go as the MASTER's there (both up, both down, both level)". */
    private static void agreeByWays() {
        String[] ways = {"45", "54", "55"};
        for (String here : ways) {
            for (String there : ways) {
                FrameReader x = sample(50, there, here, "");
                DUE.is("27: " + here + " by " + there, x.date(0, 0, 1), here.equals(there) ? 1 : 0);
            }
        }
        DUE.is("27: by the way, not by how far", sample(50, "19", "12", "").date(0, 0, 1), 1);
        DUE.is("27: none of three", sample(50, "1111", "1232", "").date(0, 0, 1), 0);
        DUE.is("27: one of three", sample(50, "1211", "1232", "").date(0, 0, 1), 1);
        DUE.is("27: two of three", sample(50, "1233", "1232", "").date(0, 0, 1), 2);
        DUE.is("27: three of three", sample(50, "1343", "1232", "").date(0, 0, 1), 3);
    }

    /** 27, Terms: "the e with the most AGREE, of several the earliest". */
    private static void earliestOfMost() {
        dueDate("27: as many twice", sample(50, "12-12", "12", "margin 0;"), 51, 1, 1, 61, 999, 61, 999);
        dueDate("27: more later", sample(50, "122-123", "123", "margin 0;"), 56, 2, 1, 66, 999, 66, 999);
        dueDate("27: more earlier", sample(50, "123-122", "123", "margin 0;"), 52, 2, 1, 62, 999, 62, 999);
        dueDate("27: none agrees anywhere", sample(50, "3333", "12", "margin 0;level 0;"), 51, 0, 1, 61, 999, 61, 999);
    }

    /** 27, Terms: "It is SURE, if 100 AGREE is level times (n - 1) at least". */
    private static void levelOrMore() {
        for (int level : new int[] {0, 1, 49, 50, 51, 99}) {
            FrameReader x = sample(50, "122", "123", "level " + level + ";");
            DUE.is("27: one of two by level " + level, x.date(0, 0, 2), level <= 50 ? 1 : 0);
            DUE.is("27: felled by level " + level, x.date(0, 0, 3), level <= 50 ? 62 : NONE);
            x = sample(50, "1222", "1234", "level " + Math.max(0, level - 17) + ";");
            DUE.is("27: one of three by level " + (level - 17), x.date(0, 0, 2), level - 17 <= 33 ? 1 : 0);
            x = sample(50, "322", "123", "level " + level + ";");
            DUE.is("27: none of two by level " + level, x.date(0, 0, 2), level == 0 ? 1 : 0);
            x = sample(50, "123", "123", "level " + level + ";");
            DUE.is("27: two of two by level " + level, x.date(0, 0, 2), 1);
        }
        for (int level = 94; level <= 97; level++) {
            FrameReader x = sample(50, "121212121212121212121211", "121212121212121212121212", "level " + level + ";");
            DUE.is("27: 22 of 23", x.date(0, 0, 1), 22);
            DUE.is("27: 22 of 23 by level " + level, x.date(0, 0, 2), level <= 95 ? 1 : 0);
        }
    }

    /** 27, Terms: "and no other e has more than AGREE less margin". */
    private static void marginOrMore() {
        String[] masters = {"1234-1234", "1234-1233", "1234-1222", "1234-2222", "1234"};
        int[] apart = {0, 1, 2, 3, 9};
        for (int i = 0; i < masters.length; i++) {
            for (int margin = 0; margin <= 9; margin++) {
                FrameReader x = sample(50, masters[i], "1234", "margin " + margin + ";");
                DUE.is("27: agree", x.date(0, 0, 1), 3);
                DUE.is("27: e", x.date(0, 0, 0), 53);
                String call = "27: other less " + apart[i] + " by margin " + margin;
                DUE.is(call, x.date(0, 0, 2), margin <= apart[i] ? 1 : 0);
            }
        }
        FrameReader x = sample(50, "1233-1234", "1234", "margin 1;");
        DUE.is("27: an earlier one less 1 by margin 1", x.date(0, 0, 2), 1);
        x = sample(50, "1233-1234", "1234", "margin 2;");
        DUE.is("27: an earlier one less 1 by margin 2", x.date(0, 0, 2), 0);
        x = sample(50, "1222-1234-1233", "1234", "margin 2;");
        DUE.is("27: the nearest other one counts", x.date(0, 0, 2), 0);
    }

    /** A SAMPLE of six rings that LIES at 105, by sap 3 to 5. */
    private static FrameReader sapped(int sap, boolean bark) {
        FrameReader x = sample(100, "123432", "123432", "sap 3 to 5;stock 7;");
        x.sap(0, sap, bark);
        return x;
    }

    /** 27, Terms: "from the greater of e and e + (first of sap) - SAP". */
    private static void felledFromSap() {
        int[] from = {108, 107, 106, 105, 105, 105, 105};
        for (int sap = 0; sap <= 6; sap++) {
            FrameReader x = sapped(sap, false);
            DUE.is("27: felled from, sap " + sap, x.date(0, 0, 3), from[sap]);
            DUE.is("27: used from, sap " + sap, x.date(0, 0, 5), from[sap]);
        }
    }

    /** 27, Terms: "to the greater of that and e + (second of sap) - SAP if SAP is above 0". */
    private static void felledToSap() {
        int[] to = {999, 109, 108, 107, 106, 105, 105};
        for (int sap = 0; sap <= 6; sap++) {
            FrameReader x = sapped(sap, false);
            DUE.is("27: felled to, sap " + sap, x.date(0, 0, 4), to[sap]);
            DUE.is("27: used to, sap " + sap, x.date(0, 0, 6), Math.min(999, to[sap] + 7));
        }
        for (int second = 3; second <= 5; second++) {
            FrameReader x = sapped(1, false);
            Feeder.custom(x, 0, "sap 3 to " + second + ";");
            DUE.is("27: felled from by 3 to " + second, x.date(0, 0, 3), 107);
            DUE.is("27: felled to by 3 to " + second, x.date(0, 0, 4), 104 + second);
        }
    }

    /** 27, Terms: "with BARK in e"; "else to 999 (open)". */
    private static void openOrNot() {
        for (int sap : new int[] {0, 1, 24}) {
            dueDate("27: bark, sap " + sap, sapped(sap, true), 105, 5, 1, 105, 105, 105, 112);
        }
        dueDate("27: open", sapped(0, false), 105, 5, 1, 108, 999, 108, 999);
        dueDate("27: not open", sapped(1, false), 105, 5, 1, 107, 109, 107, 116);
        FrameReader x = sapped(0, false);
        Feeder.custom(x, 0, "sap 0 to 0;");
        dueDate("27: open from e on", x, 105, 5, 1, 105, 999, 105, 999);
        Feeder.custom(x, 0, "sap 99 to 99;");
        dueDate("27: open from far on", x, 105, 5, 1, 204, 999, 204, 999);
    }

    /** 27, Terms: "USED: from the same to stock YEARS later (999 at most)". */
    private static void usedLater() {
        for (int stock : new int[] {0, 1, 2, 98, 99}) {
            FrameReader x = sapped(1, true);
            Feeder.custom(x, 0, "stock " + stock + ";");
            DUE.is("27: used from, stock " + stock, x.date(0, 0, 5), 105);
            DUE.is("27: used to, stock " + stock, x.date(0, 0, 6), 105 + stock);
            x.sap(0, 0, false);
            DUE.is("27: open to 999, stock " + stock, x.date(0, 0, 6), 999);
            DUE.is("27: felled to 999, stock " + stock, x.date(0, 0, 4), 999);
        }
        FrameReader x = sample(198, "12", "12", "sap 99 to 99;stock 99;");
        x.sap(0, 1, false);
        dueDate("27: the latest that is not open", x, 199, 1, 1, 297, 297, 297, 396);
    }

    /** 27: "NONE: it LIES nowhere, for 3 .. 6 it is not SURE, no such ones, or another what." */
    private static void dateOfNone() {
        FrameReader x = sample(50, "123", "123", "");
        for (int c : NO_CUSTOM) {
            DUE.is("27: custom " + c, x.date(c, 0, 0), NONE);
        }
        for (int t : new int[] {SMALL, -1, 1, 2, 16, BIG}) {
            DUE.is("27: timber " + t, x.date(0, t, 0), NONE);
        }
        for (int what : new int[] {SMALL, -1, 7, 8, BIG}) {
            DUE.is("27: what " + what, x.date(0, 0, what), NONE);
        }
        dueDate("27: sure", x, 52, 2, 1, 62, 999, 62, 999);
        dueDate("27: not sure", sample(50, "123-123", "123", ""), 52, 2, 0);
        dueDate("27: lies nowhere", sample(50, "12-3", "123", ""));
        DUE.is("27: another what, not sure", sample(50, "123-123", "123", "").date(0, 0, 7), NONE);
        x.days(1);
        x.timber(0, 9);
        rings(x, 1, "12");
        Feeder.custom(x, 1, "margin 0;");
        DUE.is("27: the second timber", x.date(1, 1, 0), 51);
        x.view(0);
        DUE.is("27: the second timber on day 0", x.date(1, 1, 0), NONE);
    }

    /** A beam 0 with three posts, and THE MASTER from 100 on; their rings are the MASTER's first ones. */
    private static FrameReader house(String custom, int... lastYears) {
        FrameReader x = new FrameReader();
        x.timber(1, 20);
        for (int i = 1; i <= 3; i++) {
            x.timber(0, 9);
            x.joint(0, i, 1, 2 * i);
            x.joint(i, 0, 0, 2 * i);
        }
        String widths = "135724681325467";
        master(x, 100, widths);
        Feeder.custom(x, 0, "post into beam;slack 0;margin 0;" + custom);
        for (int t = 0; t < lastYears.length; t++) {
            rings(x, t, widths.substring(0, lastYears[t] - 99));
            x.sap(t, 0, true);
        }
        return x;
    }

    private static void dueBuilt(String name, FrameReader x, int... want) {
        for (int what = 0; what < 4; what++) {
            DUE.is(name + ", what " + what, x.built(0, 0, what), want[what]);
        }
    }

    /** 28, Terms: "YEARS that are in the USED spans of the most of its TIMBERS that are SURE"; QUARREL. */
    private static void builtTogether() {
        dueBuilt("28: none", house("stock 3;"), NONE, NONE, 0, 0);
        dueBuilt("28: one", house("stock 3;", 104), 104, 107, 0, 1);
        dueBuilt("28: the same year", house("stock 3;", 104, 104), 104, 107, 0, 2);
        dueBuilt("28: a year later", house("stock 3;", 104, 105), 105, 107, 0, 2);
        dueBuilt("28: one year together", house("stock 3;", 104, 107), 107, 107, 0, 2);
        dueBuilt("28: none together", house("stock 3;", 104, 108), 104, 111, 1, 2);
        dueBuilt("28: in one year", house("stock 0;", 104, 104, 104, 104), 104, 104, 0, 4);
        dueBuilt("28: two against two", house("stock 0;", 106, 104, 106, 104), 104, 104, 2, 4);
        dueBuilt("28: three against one", house("stock 0;", 106, 104, 106, 106), 106, 106, 1, 4);
        dueBuilt("28: all apart", house("stock 0;", 104, 106, 108, 110), 104, 104, 3, 4);
        FrameReader x = house("stock 3;", 104, 105);
        dueBuilt("28: two", x, 105, 107, 0, 2);
        x.master(104, -1);
        x.master(109, -1);
        x.master(112, -1);
        dueBuilt("28: none is sure any more", x, NONE, NONE, 0, 0);
    }

    /** 28, Terms: "to the last YEAR up to which without a break as many are". */
    private static void builtTillABreak() {
        dueBuilt("28: no year between", house("stock 2;", 104, 107), 104, 109, 1, 2);
        dueBuilt("28: one year between", house("stock 2;", 104, 108), 104, 106, 1, 2);
        dueBuilt("28: two years between", house("stock 2;", 104, 109), 104, 106, 1, 2);
        dueBuilt("28: more behind it", house("stock 2;", 104, 106), 106, 106, 0, 2);
        dueBuilt("28: as many again behind a break", house("stock 2;", 104, 105, 108, 109), 105, 106, 2, 4);
        dueBuilt("28: as many, one goes as one comes", house("stock 2;", 104, 105, 107, 108), 105, 109, 2, 4);
        dueBuilt("28: two for three years each", house("stock 2;", 104, 104, 107, 107), 104, 109, 2, 4);
    }

    /** 28: spans that are open go to 999. */
    private static void builtOpen() {
        FrameReader x = house("stock 3;sap 2 to 6;", 104, 105);
        x.sap(0, 0, false);
        dueBuilt("28: one open", x, 106, 108, 0, 2);
        x.sap(1, 0, false);
        dueBuilt("28: both open", x, 107, 999, 0, 2);
        FrameReader y = house("stock 99;sap 99 to 99;", 104);
        y.sap(0, 0, false);
        dueBuilt("28: open from 203 on", y, 203, 999, 0, 1);
    }

    /** 28: "NONE: none is (but for 2, 3: 0 then), none such, or another what." */
    private static void builtOfNone() {
        FrameReader x = house("", 104);
        for (int c : NO_CUSTOM) {
            DUE.is("28: custom " + c, x.built(c, 0, 3), NONE);
        }
        DUE.is("28: custom 1 has no frame", x.built(1, 0, 3), NONE);
        for (int f : new int[] {SMALL, -1, 1, 2, 8, BIG}) {
            for (int what = 0; what < 4; what++) {
                DUE.is("28: frame " + f, x.built(0, f, what), NONE);
            }
        }
        for (int what : new int[] {SMALL, -1, 4, 5, BIG}) {
            DUE.is("28: what " + what, x.built(0, 0, what), NONE);
            DUE.is("28: none sure, what " + what, house("").built(0, 0, what), NONE);
        }
    }

    /** 29, Terms: "in a YEAR (0 .. 999) so far (-99 .. 99)"; "false, and nothing is done, if one can't be". */
    private static void leanYears() {
        FrameReader x = new FrameReader();
        DUE.is("29: without a timber", x.lean(0, 5, 5), false);
        x.timber(0, 9);
        for (int t : new int[] {SMALL, -1, 1, 2, 16, BIG}) {
            DUE.is("29: timber " + t, x.lean(t, 5, 5), false);
        }
        for (int year : new int[] {SMALL, -2, -1, 1000, 1001, BIG}) {
            DUE.is("29: year " + year, x.lean(0, year, 5), false);
        }
        for (int far : new int[] {SMALL, -101, -100, 100, 101, BIG}) {
            DUE.is("29: far " + far, x.lean(0, 5, far), false);
        }
        DUE.is("30: nothing done", x.leans(0, 0), 0);
        int[][] right = {{0, -99}, {1, -98}, {2, 0}, {998, 98}, {999, 99}};
        for (int i = 0; i < right.length; i++) {
            DUE.is("29: year " + right[i][0], x.lean(0, right[i][0], right[i][1]), true);
            DUE.is("30: years", x.leans(0, 0), i + 1);
            DUE.is("30: the last", x.leans(0, 1), right[i][0]);
            DUE.is("30: how far", x.leans(0, 2), right[i][1]);
        }
        DUE.is("29: wrong", x.lean(0, 999, 100), false);
        DUE.is("30: 99 stays", x.leans(0, 2), 99);
        x.days(1);
        x.timber(0, 9);
        x.view(0);
        DUE.is("29: of one that came, though not seen", x.lean(1, 5, 5), true);
        DUE.is("30: not seen", x.leans(1, 0), NO_LEAN);
        DUE.is("30: seen", x.view(1) ? x.leans(1, 0) : NONE, 1);
    }

    /** 29: "or 60 were told in all": of all TIMBERS, each one told, but none refused. */
    private static void sixtyLeans() {
        FrameReader x = withTimber();
        x.timber(0, 9);
        for (int i = 1; i <= 60; i++) {
            DUE.is("29: a wrong one", x.lean(0, 1000, 5), false);
            DUE.is("29: lean " + i, x.lean(i % 2, i < 50 ? 5 : i, i), true);
        }
        DUE.is("29: lean 61", x.lean(0, 999, 5), false);
        DUE.is("29: lean 61 of a year told", x.lean(0, 60, 5), false);
        DUE.is("30: years", x.leans(0, 0), 7);
        DUE.is("30: the 60th stays", x.leans(0, 2), 60);
        DUE.is("30: the 59th", x.leans(1, 2), 59);
        DUE.is("30: years of the other", x.leans(1, 0), 6);
    }

    /** 30: "0 how many YEARS, 1 the last YEAR, 2 how far then": "of one YEAR the latest told counts". */
    private static void leansOfYears() {
        FrameReader x = withTimber();
        x.lean(0, 50, 1);
        x.lean(0, 50, 2);
        DUE.is("30: one year", x.leans(0, 0), 1);
        DUE.is("30: the latest told", x.leans(0, 2), 2);
        x.lean(0, 49, 3);
        DUE.is("30: two years", x.leans(0, 0), 2);
        DUE.is("30: the last year", x.leans(0, 1), 50);
        DUE.is("30: how far then", x.leans(0, 2), 2);
        DUE.is("30: rate", x.leans(0, 3), -1);
        DUE.is("30: below", x.leans(0, 4), 1);
        x.lean(0, 51, 4);
        DUE.is("30: three years", x.leans(0, 0), 3);
        DUE.is("30: the last year", x.leans(0, 1), 51);
        x.days(1);
        x.lean(0, 51, 9);
        x.view(0);
        DUE.is("30: as it was", x.leans(0, 2), 4);
        x.view(1);
        DUE.is("30: as it is", x.leans(0, 2), 9);
        DUE.is("30: three years still", x.leans(0, 0), 3);
    }

    private static FrameReader leaning(int year, int far, int laterYear, int laterFar) {
        FrameReader x = withTimber();
        x.lean(0, year, far);
        x.lean(0, laterYear, laterFar);
        return x;
    }

    /** 30, Terms: "RATE: from the first YEAR to the last one, as a fraction". */
    private static void rateInLeastTerms() {
        int[][] rows = {{0, 0, 1, 0, 0, 1}, {0, 0, 999, 0, 0, 1}, {0, 0, 1, 1, 1, 1}, {0, 1, 1, 0, -1, 1},
            {0, -99, 1, 99, 198, 1}, {0, 99, 1, -99, -198, 1}, {0, -99, 999, 99, 22, 111}, {0, 99, 999, -99, -22, 111},
            {998, 0, 999, 1, 1, 1}, {0, 0, 999, 1, 1, 999}, {0, 0, 998, 1, 1, 998}, {0, 1, 999, 0, -1, 999},
            {0, 0, 2, 4, 2, 1}, {0, 0, 4, 2, 1, 2}, {0, 0, 6, 4, 2, 3}, {0, 0, 4, 6, 3, 2}, {10, 5, 17, -9, -2, 1}};
        for (int[] r : rows) {
            String call = r[1] + " in " + r[0] + ", " + r[3] + " in " + r[2];
            FrameReader x = leaning(r[0], r[1], r[2], r[3]);
            DUE.is("30: above, " + call, x.leans(0, 3), r[4]);
            DUE.is("30: below, " + call, x.leans(0, 4), r[5]);
            FrameReader y = leaning(r[2], r[3], r[0], r[1]);
            DUE.is("30: told the other way, " + call, y.leans(0, 3), r[4]);
            DUE.is("30: told the other way, " + call, y.leans(0, 4), r[5]);
        }
        FrameReader x = leaning(0, 0, 10, 20);
        x.timber(0, 9);
        x.lean(1, 5, 10);
        x.lean(1, 6, 7);
        for (int i = 0; i < 2; i++) {
            DUE.is("30: above, of 0", x.leans(0, 3), 2);
            DUE.is("30: above, of 1", x.leans(1, 3), -3);
            DUE.is("31: of 0", x.falls(0, 20), 11);
            DUE.is("31: of 1", x.falls(1, 7), 11);
        }
        x.lean(0, 5, 99);
        DUE.is("30: one between counts for nothing", x.leans(0, 3), 2);
        DUE.is("30: below", x.leans(0, 4), 1);
    }

    /** 30: "NONE - 999: none such, without one (for 0: 0), for 3, 4 with fewer than two YEARS, or another what." */
    private static void leansOfNone() {
        FrameReader x = withTimber();
        int[][] want = {{0, NO_LEAN, NO_LEAN, NO_LEAN, NO_LEAN}, {1, 7, 3, NO_LEAN, NO_LEAN}, {2, 9, 5, 1, 1}};
        for (int years = 0; years <= 2; years++) {
            for (int what = 0; what < 5; what++) {
                DUE.is("30: " + years + " years, what " + what, x.leans(0, what), want[years][what]);
            }
            for (int what : new int[] {SMALL, -1, 5, 6, BIG}) {
                DUE.is("30: what " + what, x.leans(0, what), NO_LEAN);
            }
            for (int t : new int[] {SMALL, -1, 1, 2, 16, BIG}) {
                DUE.is("30: timber " + t, x.leans(t, 0), NO_LEAN);
            }
            x.lean(0, 7 + 2 * years, 3 + 2 * years);
        }
    }

    /** 31, Terms: "FALLS beyond a bound (0 .. 999)", "farther than that to either side". */
    private static void fallsBeyondBounds() {
        FrameReader x = leaning(100, 10, 110, 20);
        int[][] rows = {{0, 110}, {1, 110}, {19, 110}, {20, 111}, {21, 112}, {998, 1089}, {999, 1090}, {1000, NONE},
            {1001, NONE}, {-1, NONE}, {-2, NONE}, {BIG, NONE}, {SMALL, NONE}};
        for (int[] r : rows) {
            DUE.is("31: right, beyond " + r[0], x.falls(0, r[0]), r[1]);
        }
        FrameReader later = leaning(110, 20, 100, 10);
        for (int[] r : rows) {
            DUE.is("31: the last year told first, beyond " + r[0], later.falls(0, r[0]), r[1]);
        }
        FrameReader y = leaning(100, -10, 110, -20);
        for (int[] r : rows) {
            DUE.is("31: left, beyond " + r[0], y.falls(0, r[0]), r[1]);
        }
        FrameReader z = leaning(100, 30, 110, 20);
        int[][] back = {{19, 110}, {20, 151}, {21, 152}, {0, 110}};
        for (int[] r : back) {
            DUE.is("31: to the other side, beyond " + r[0], z.falls(0, r[0]), r[1]);
        }
    }

    /** 31, Terms: "the first YEAR, from the last one told on, in which it leans (by the last one and RATE)". */
    private static void fallsFromTheLastOn() {
        FrameReader x = leaning(100, 0, 103, 2);
        int[][] thirds = {{0, 103}, {1, 103}, {2, 104}, {3, 105}, {4, 107}, {5, 108}};
        for (int[] r : thirds) {
            DUE.is("31: two thirds, beyond " + r[0], x.falls(0, r[0]), r[1]);
        }
        x.lean(0, 101, 99);
        DUE.is("31: farther in a year between", x.falls(0, 50), 176);
        FrameReader still = leaning(100, 7, 200, 7);
        DUE.is("31: still, beyond 6", still.falls(0, 6), 200);
        DUE.is("31: still, beyond 7", still.falls(0, 7), NONE);
        DUE.is("31: still, beyond 8", still.falls(0, 8), NONE);
        FrameReader upright = leaning(100, 50, 200, 0);
        DUE.is("31: upright in the last year", upright.falls(0, 0), 201);
        DUE.is("31: beyond 1", upright.falls(0, 1), 203);
        x = leaning(0, 0, 10, 5);
        x.days(1);
        x.lean(0, 10, 10);
        DUE.is("31: as it is", x.falls(0, 20), 21);
        x.view(0);
        DUE.is("31: as it was", x.falls(0, 20), 41);
    }

    /** 31, Terms: "9999 at most, else NONE". */
    private static void fallsTill9999() {
        for (int year = 7; year <= 9; year++) {
            FrameReader x = leaning(year, 0, year + 10, 1);
            DUE.is("31: in " + (9991 + year), x.falls(0, 999), year <= 8 ? 9991 + year : NONE);
            FrameReader y = leaning(year, 0, year + 10, -1);
            DUE.is("31: to the left in " + (9991 + year), y.falls(0, 999), year <= 8 ? 9991 + year : NONE);
        }
        FrameReader x = leaning(0, 0, 999, 1);
        DUE.is("31: beyond 9", x.falls(0, 9), 8992);
        DUE.is("31: beyond 10", x.falls(0, 10), 9991);
        DUE.is("31: beyond 11", x.falls(0, 11), NONE);
        DUE.is("31: beyond 999", x.falls(0, 999), NONE);
    }

    /** 31: "NONE if it does not, has fewer than two YEARS, or one can't be." */
    private static void fallsOfNone() {
        FrameReader x = withTimber();
        DUE.is("31: no year", x.falls(0, 0), NONE);
        x.lean(0, 5, 9);
        DUE.is("31: one year", x.falls(0, 0), NONE);
        x.lean(0, 5, 99);
        DUE.is("31: one year told twice", x.falls(0, 0), NONE);
        x.days(1);
        x.lean(0, 6, 99);
        DUE.is("31: two years", x.falls(0, 0), 6);
        for (int t : new int[] {SMALL, -1, 1, 2, 16, BIG}) {
            DUE.is("31: timber " + t, x.falls(t, 0), NONE);
        }
        x.view(0);
        DUE.is("31: one year in the view", x.falls(0, 0), NONE);
        x.timber(0, 9);
        x.lean(1, 5, 9);
        x.lean(1, 6, 9);
        DUE.is("31: a timber not seen", x.falls(1, 0), NONE);
    }
}
