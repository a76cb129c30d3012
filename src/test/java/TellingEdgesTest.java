/**
 * The sentences of promises 1 to 10 that name a boundary, each with a test of its own: on the boundary, one below and
 * one above. The number ahead of each call is the promise's.
 */
public final class TellingEdgesTest {
    private static final int NONE = FrameReader.NONE;
    private static final int BIG = Integer.MAX_VALUE;
    private static final int SMALL = Integer.MIN_VALUE;
    private static final String[] KINDS = {"post", "beam", "rafter", "brace"};
    private static final String[] KEYWORDS = {"four", "add", "less", "both", "turn", "slack", "into", "ahead", "hold",
        "level", "margin", "sap", "to", "stock", "post", "beam", "rafter", "brace"};
    private static final String FIRST_WORDS = " four turn slack hold level margin sap stock post beam rafter brace ";
    private static final String[] LINES = {"four add ;", "four less ;", "four both ;", "turn ;", "slack N ;",
        "K into K ;", "K ahead K ;", "hold N ;", "level N ;", "margin N ;", "sap N to N ;", "stock N ;"};
    private static final Due DUE = new Due("TellingEdgesTest");

    private TellingEdgesTest() {
    }

    public static void main(String[] args) {
        nothingIsTold();
        objectsApart();
        lastCall();
        daysByOneCall();
        lastDay();
        viewsUpToNow();
        viewOfThatDayToo();
        kindsAndLengths();
        sixteenTimbers();
        jointsOfTimbers();
        placesSortsSizes();
        sixJoints();
        fortyEightJoints();
        highestFirst();
        eightHundredBytes();
        firstBytesAlone();
        sixSigns();
        signsAlone();
        sideBehind();
        twoHundredMarks();
        noMark();
        markOfAnyThatCame();
        emptyTape();
        fortyLines();
        limitsOfNumbers();
        sapInOrder();
        digitsOfNumbers();
        blanks();
        wholeKeywords();
        whatCanStand();
        faultAtTheEnd();
        firstFault();
        faultsKept();
        laterLines();
        newLinesAlone();
        noSuchCustom();
        DUE.end();
    }

    private static FrameReader withTimber(int kind, int length) {
        FrameReader x = new FrameReader();
        x.timber(kind, length);
        return x;
    }

    private static FrameReader withJoint() {
        FrameReader x = withTimber(0, 9);
        x.joint(0, 0, 0, 1);
        return x;
    }

    private static void dueTape(String call, FrameReader x, int bytes) {
        DUE.is(call + ": one more byte on the tape", x.end(bytes + 1), false);
        DUE.is(call + ": bytes on the tape", x.end(bytes), true);
    }

    private static void dueFirstCustom(String call, FrameReader x, int c) {
        int[] first = {3, 0, 1, 2, 60, 1, 10, 30, 2};
        for (int what = 0; what < first.length; what++) {
            DUE.is(call + " what " + what, x.customs(c, what), first[what]);
        }
        for (int pair = 0; pair < 16; pair++) {
            DUE.is(call + " into " + pair, x.customs(c, 10 + pair), 0);
            DUE.is(call + " ahead " + pair, x.customs(c, 30 + pair), 0);
        }
    }

    private static void dueNew(String call, FrameReader x) {
        int[] look = {0, NONE, 0, 0, 0, 0, 0};
        for (int what = 0; what < look.length; what++) {
            DUE.is(call + " look " + what, x.look(what), look[what]);
        }
        for (int c = 0; c < 2; c++) {
            dueFirstCustom(call + " custom " + c, x, c);
            for (int what = 0; what < 4; what++) {
                DUE.is(call + " join " + what, x.join(c, what), 0);
            }
            DUE.is(call + " frame", x.frame(c, 0, 0), NONE);
            DUE.is(call + " orders", x.orders(c, 0), NONE);
            DUE.is(call + " date", x.date(c, 0, 0), NONE);
            DUE.is(call + " reads", x.reads(c, 0), NONE);
            DUE.is(call + " built", x.built(c, 0, 3), NONE);
        }
        DUE.is(call + " fault", x.fault(0), 0);
        DUE.is(call + " place", x.fault(1), NONE);
        DUE.is(call + " out", x.out(0), NONE);
        DUE.is(call + " of", x.of(0, 0), NONE);
        DUE.is(call + " at", x.at(0, 0), NONE);
        DUE.is(call + " leans", x.leans(0, 0), -1000);
        DUE.is(call + " falls", x.falls(0, 0), NONE);
        dueTape(call, x, 0);
    }

    /** 1: "Nothing is told; CUSTOMS as at first." */
    private static void nothingIsTold() {
        dueNew("1: new", new FrameReader());
    }

    /** 1: an object knows nothing of what another one was told. */
    private static void objectsApart() {
        FrameReader x = withJoint();
        Feeder.mark(x, 0, "IV'");
        Feeder.custom(x, 0, "four add;turn;slack 3;post into post;post ahead beam;");
        Feeder.custom(x, 1, "slack 4;");
        x.master(0, 1);
        x.master(1, 2);
        x.ring(0, 1);
        x.ring(0, 2);
        x.lean(0, 5, 5);
        x.days(5);
        x.view(3);
        x.feed(0, 0, 0, 0, 0);
        FrameReader y = new FrameReader();
        dueNew("1: behind another", y);
        y.timber(0, 9);
        y.ring(0, 1);
        y.ring(0, 2);
        DUE.is("1: no master", y.date(0, 0, 0), NONE);
        DUE.is("1: no leans", y.leans(0, 0), 0);
    }

    /** "An object is used for at most 512 calls": the last ones are answered like the first ones. */
    private static void lastCall() {
        FrameReader x = withJoint();
        for (int i = 0; i < 507; i++) {
            x.look(0);
        }
        DUE.is("1: call 510", x.feed(0x49565858, 0, 0, 0, 0), 20);
        DUE.is("1: call 511", x.end(3), true);
        DUE.is("1: call 512", x.mark(0), 3);
    }

    /** 2: "So many DAYS (1 .. 1000) go by: now; NONE, and nothing is done, if that can't be." */
    private static void daysByOneCall() {
        FrameReader x = new FrameReader();
        for (int n : new int[] {SMALL, -1000, -1, 0, 1001, 1002, BIG}) {
            DUE.is("2: days " + n, x.days(n), NONE);
            DUE.is("2: nothing done by days " + n, x.look(0), 0);
        }
        DUE.is("2: days 1", x.days(1), 1);
        DUE.is("2: days 2", x.days(2), 3);
        DUE.is("2: days 999", x.days(999), 1002);
        DUE.is("2: days 1000", x.days(1000), 2002);
        for (int n : new int[] {SMALL, -2, -1, 0, 1001, BIG, BIG - 2001}) {
            DUE.is("2: days " + n + " on 2002", x.days(n), NONE);
        }
        DUE.is("2: now", x.look(0), 2002);
    }

    /** 2, Terms: "DAYS 0 .. 9999". */
    private static void lastDay() {
        for (int day = 9997; day <= 9999; day++) {
            FrameReader x = new FrameReader();
            for (int i = 0; i < 9; i++) {
                x.days(1000);
            }
            DUE.is("2: up to " + day, x.days(day - 9000), day);
            DUE.is("2: to 10000", x.days(10000 - day), NONE);
            DUE.is("2: to 10001", x.days(10001 - day), NONE);
            DUE.is("2: day", x.look(0), day);
            if (day < 9999) {
                DUE.is("2: to 9999", x.days(9999 - day), 9999);
            }
            DUE.is("2: behind 9999", x.days(1), NONE);
            DUE.is("2: a thousand behind it", x.days(1000), NONE);
            DUE.is("2: 9999", x.look(0), 9999);
            DUE.is("3: view 9998", x.view(9998), true);
            DUE.is("3: view 9999", x.view(9999), true);
            DUE.is("3: view 10000", x.view(10000), false);
            DUE.is("3: stays", x.look(1), 9999);
        }
    }

    /** 3: "THE VIEW is a DAY (-1: all): true; false, and nothing is done, if there is none such up to now." */
    private static void viewsUpToNow() {
        FrameReader x = new FrameReader();
        DUE.is("3: view 1 on 0", x.view(1), false);
        DUE.is("3: all stays", x.look(1), NONE);
        DUE.is("3: view 0 on 0", x.view(0), true);
        DUE.is("3: look", x.look(1), 0);
        x.days(5);
        for (int day : new int[] {SMALL, -3, -2, 6, 7, BIG}) {
            DUE.is("3: view " + day, x.view(day), false);
            DUE.is("3: stays", x.look(1), 0);
        }
        for (int day : new int[] {0, 1, 4, 5, -1}) {
            DUE.is("3: view " + day, x.view(day), true);
            DUE.is("3: it is", x.look(1), day);
            DUE.is("3: view 6", x.view(6), false);
            DUE.is("3: it stays", x.look(1), day);
        }
        x.days(1);
        DUE.is("3: view 6 on 6", x.view(6), true);
        DUE.is("3: view 7 on 6", x.view(7), false);
    }

    /** 3, Terms: "what is asked is answered by what was told up to that DAY (it too)". */
    private static void viewOfThatDayToo() {
        FrameReader x = withJoint();
        x.days(3);
        for (int day = 4; day <= 6; day++) {
            x.days(1);
            x.timber(0, 9);
            x.joint(0, 0, 1, 1);
            Feeder.mark(x, 0, "X".repeat(day - 3));
            x.ring(0, 5);
            x.lean(0, day, day);
        }
        x.master(0, 5);
        x.master(1, 6);
        x.sap(0, 7, true);
        Feeder.custom(x, 1, "stock 42;");
        for (int day = 3; day <= 6; day++) {
            x.view(day);
            int n = day - 3;
            DUE.is("3: timbers on " + day, x.look(2), 1 + n);
            DUE.is("3: joints on " + day, x.look(3), 1 + n);
            DUE.is("3: the last timber on " + day, x.of(n, 6), n == 0 ? 0 : day);
            DUE.is("3: no timber on " + day, x.of(n + 1, 6), NONE);
            DUE.is("3: the last joint on " + day, x.at(n, 2), n == 0 ? 0 : 1);
            DUE.is("3: no joint on " + day, x.at(n + 1, 2), NONE);
            DUE.is("3: its joints on " + day, x.of(0, 2), 1 + n);
            DUE.is("3: signs on " + day, x.at(0, 4), n);
            DUE.is("3: rings on " + day, x.of(0, 3), n);
            DUE.is("3: leans on " + day, x.leans(0, 0), n);
            DUE.is("3: the last lean on " + day, x.leans(0, 2), n == 0 ? -1000 : day);
            DUE.is("24: master in all views", x.date(0, 0, 0), n == 2 ? 1 : NONE);
            DUE.is("26: sap in all views", x.of(0, 4), 7);
            DUE.is("26: bark in all views", x.of(0, 5), 1);
            DUE.is("3: custom as it is now", x.customs(1, 8), 42);
        }
    }

    /** 4, Terms: "a KIND (0 post, 1 beam, 2 rafter, 3 brace), a LENGTH (1 .. 99)". */
    private static void kindsAndLengths() {
        FrameReader x = new FrameReader();
        for (int kind : new int[] {SMALL, -1, 4, 5, BIG}) {
            DUE.is("4: kind " + kind, x.timber(kind, 9), NONE);
        }
        for (int length : new int[] {SMALL, -1, 0, 100, 101, BIG}) {
            DUE.is("4: length " + length, x.timber(0, length), NONE);
        }
        DUE.is("4: nothing done", x.look(2), 0);
        int[] lengths = {1, 2, 98, 99};
        for (int i = 0; i < 4; i++) {
            DUE.is("4: timber " + i, x.timber(i, lengths[i]), i);
            DUE.is("13: kind", x.of(i, 0), i);
            DUE.is("13: length", x.of(i, 1), lengths[i]);
        }
    }

    /** 4: "NONE, and nothing is done, if one can't be, or there are 16." */
    private static void sixteenTimbers() {
        FrameReader x = new FrameReader();
        for (int i = 0; i < 16; i++) {
            DUE.is("4: a wrong one ahead of " + i, x.timber(4, 9), NONE);
            DUE.is("4: timber " + i, x.timber(i % 4, 1 + i), i);
        }
        for (int i = 0; i < 3; i++) {
            DUE.is("4: timber 16", x.timber(0, 99), NONE);
        }
        DUE.is("11: timbers", x.look(2), 16);
        DUE.is("13: of 14", x.of(14, 1), 15);
        DUE.is("13: of 15", x.of(15, 1), 16);
        DUE.is("13: of 16", x.of(16, 1), NONE);
        DUE.is("13: of 0", x.of(0, 1), 1);
    }

    /** 5: "A JOINT of TIMBER t (any that came)". */
    private static void jointsOfTimbers() {
        FrameReader x = new FrameReader();
        DUE.is("5: without a timber", x.joint(0, 0, 0, 1), NONE);
        x.days(1);
        x.timber(0, 9);
        x.timber(0, 9);
        x.view(0);
        for (int t : new int[] {SMALL, -1, 2, 3, 16, BIG}) {
            DUE.is("5: of timber " + t, x.joint(t, 0, 0, 1), NONE);
        }
        DUE.is("5: of 1, which the view has not", x.joint(1, 0, 0, 1), 0);
        DUE.is("5: of 0, which the view has not", x.joint(0, 0, 0, 1), 1);
        DUE.is("14: it is not seen", x.at(0, 0), NONE);
        x.view(1);
        DUE.is("14: its timber", x.at(0, 0), 1);
        DUE.is("14: no more were made", x.at(2, 0), NONE);
    }

    /** 5, Terms: "at a PLACE of its LENGTH (0 .. LENGTH), a SORT (0 TENON, 1 HOLE), a SIZE (1 .. 9)". */
    private static void placesSortsSizes() {
        FrameReader x = withTimber(0, 7);
        x.timber(0, 8);
        for (int place : new int[] {SMALL, -1, 8, 9, BIG}) {
            DUE.is("5: place " + place, x.joint(0, place, 0, 1), NONE);
        }
        for (int sort : new int[] {SMALL, -1, 2, 3, BIG}) {
            DUE.is("5: sort " + sort, x.joint(0, 0, sort, 1), NONE);
        }
        for (int size : new int[] {SMALL, -1, 0, 10, 11, BIG}) {
            DUE.is("5: size " + size, x.joint(0, 0, 0, size), NONE);
        }
        DUE.is("5: nothing done", x.look(3), 0);
        int[][] right = {{0, 0, 0, 1}, {0, 1, 1, 2}, {0, 6, 0, 8}, {0, 7, 1, 9}, {1, 8, 1, 1}};
        for (int j = 0; j < right.length; j++) {
            int[] r = right[j];
            DUE.is("5: joint " + j, x.joint(r[0], r[1], r[2], r[3]), j);
            for (int what = 0; what < 4; what++) {
                DUE.is("14: at " + j + " what " + what, x.at(j, what), r[what]);
            }
        }
        DUE.is("5: behind the other's length", x.joint(1, 9, 0, 1), NONE);
        FrameReader least = withTimber(0, 1);
        DUE.is("5: length 1 place 0", least.joint(0, 0, 0, 1), 0);
        DUE.is("5: length 1 place 1", least.joint(0, 1, 0, 1), 1);
        DUE.is("5: length 1 place 2", least.joint(0, 2, 0, 1), NONE);
        FrameReader most = withTimber(0, 99);
        DUE.is("5: length 99 place 98", most.joint(0, 98, 0, 1), 0);
        DUE.is("5: length 99 place 99", most.joint(0, 99, 0, 1), 1);
        DUE.is("5: length 99 place 100", most.joint(0, 100, 0, 1), NONE);
    }

    /** 5: "NONE, and nothing is done: .. it has 6". */
    private static void sixJoints() {
        FrameReader x = withTimber(0, 9);
        x.timber(0, 9);
        for (int i = 0; i < 6; i++) {
            DUE.is("5: a wrong one", x.joint(0, 10, 0, 1), NONE);
            DUE.is("5: joint " + i, x.joint(0, 3, i % 2, 1), i);
            DUE.is("13: joints", x.of(0, 2), i + 1);
        }
        DUE.is("5: the 7th tenon", x.joint(0, 3, 0, 1), NONE);
        DUE.is("5: the 7th hole", x.joint(0, 3, 1, 1), NONE);
        DUE.is("13: joints stay", x.of(0, 2), 6);
        DUE.is("11: joints stay", x.look(3), 6);
        DUE.is("5: the other timber's", x.joint(1, 3, 0, 1), 6);
        DUE.is("13: the other's joints", x.of(1, 2), 1);
    }

    /** 5: "NONE, and nothing is done: .. or there are 48". */
    private static void fortyEightJoints() {
        FrameReader x = new FrameReader();
        for (int t = 0; t < 9; t++) {
            x.timber(0, 9);
        }
        for (int i = 0; i < 48; i++) {
            DUE.is("5: joint " + i, x.joint(i / 6, 3, i % 2, 1 + i % 9), i);
        }
        DUE.is("5: joint 48", x.joint(8, 3, 0, 1), NONE);
        DUE.is("5: joint 48 again", x.joint(8, 3, 1, 1), NONE);
        DUE.is("11: joints", x.look(3), 48);
        DUE.is("13: none came to the ninth", x.of(8, 2), 0);
        DUE.is("14: at 46", x.at(46, 3), 2);
        DUE.is("14: at 47", x.at(47, 3), 3);
        DUE.is("14: at 48", x.at(48, 3), NONE);
        DUE.is("8: a mark of 47", Feeder.mark(x, 47, "V"), 1);
        DUE.is("8: a mark of 48", Feeder.mark(x, 48, "V"), NONE);
    }

    /** 6: "Twenty bytes come behind the TAPE, of each number the highest first: how many it has." */
    private static void highestFirst() {
        String text = "slack 2;hold 3;turn;";
        FrameReader x = new FrameReader();
        DUE.is("6: one feed", x.feed(0x736c6163, 0x6b20323b, 0x686f6c64, 0x20333b74, 0x75726e3b), 20);
        DUE.is("9: lines", x.custom(0), 3);
        DUE.is("12: slack", x.customs(0, 2), 2);
        DUE.is("12: turn", x.customs(0, 1), 1);
        for (int i = 0; i < 20; i++) {
            int[] numbers = new int[5];
            for (int k = 0; k < 20; k++) {
                numbers[k / 4] |= (k == i ? 0xff : text.charAt(k)) << 24 - 8 * (k % 4);
            }
            DUE.is("6: byte 255", x.feed(numbers[0], numbers[1], numbers[2], numbers[3], numbers[4]), 20);
            DUE.is("9: byte 255 is none", x.custom(1), NONE);
            DUE.is("10: fault", x.fault(0), 1);
        }
    }

    /** 6: "NONE, and nothing comes, if there would be more than 800." */
    private static void eightHundredBytes() {
        for (int left = 779; left <= 782; left++) {
            FrameReader x = withJoint();
            for (int i = 1; i <= 40; i++) {
                DUE.is("6: feed", x.feed(0x49494949, 0, 0, 0, 0), 20 * i);
            }
            DUE.is("6: a 41st", x.feed(0, 0, 0, 0, 0), NONE);
            DUE.is("7: 801", x.end(801), false);
            DUE.is("7: 800", x.end(800), true);
            DUE.is("7: cut", x.end(left), true);
            DUE.is("6: on " + left, x.feed(0, 0, 0, 0, 0), left <= 780 ? left + 20 : NONE);
            dueTape("6: on " + left, x, left <= 780 ? left + 20 : left);
            x.end(4);
            DUE.is("6: the first ones stay", x.mark(0), 4);
            DUE.is("6: behind the empty tape", x.feed(0, 0, 0, 0, 0), 20);
        }
    }

    /** 7: "its first n bytes alone: true; false, changing nothing, if it has not so many, or n is below 0." */
    private static void firstBytesAlone() {
        FrameReader x = withJoint();
        DUE.is("7: 1 of none", x.end(1), false);
        DUE.is("7: 0 of none", x.end(0), true);
        DUE.is("7: -1 of none", x.end(-1), false);
        x.feed(0x49565849, 0x49583f56, 0, 0, 0);
        for (int n : new int[] {SMALL, -20, -1, 21, 22, 800, BIG}) {
            DUE.is("7: " + n + " of 20", x.end(n), false);
        }
        DUE.is("7: 20 of 20", x.end(20), true);
        DUE.is("7: 19 of 20", x.end(19), true);
        DUE.is("7: 20 of 19", x.end(20), false);
        DUE.is("7: 5 of 19", x.end(5), true);
        DUE.is("7: 6 of 5", x.end(6), false);
        DUE.is("7: -1 of 5", x.end(-1), false);
        DUE.is("8: five", x.mark(0), 5);
        int[] signs = {'I', 'V', 'X', 'I', 'I', NONE};
        for (int i = 0; i < signs.length; i++) {
            DUE.is("14: sign " + i, x.at(0, 10 + i), signs[i]);
        }
        x.feed(0x58585858, 0, 0, 0, 0);
        DUE.is("7: 0 of 20", x.end(0), true);
        DUE.is("6: behind the cut", x.feed(0x49565858, 0, 0, 0, 0), 20);
        DUE.is("7: 1 of 20", x.end(1), true);
        DUE.is("8: one", x.mark(0), 1);
        DUE.is("14: the one", x.at(0, 10), 'I');
    }

    /** 8, Terms: "a row of 0 to 6 signs". */
    private static void sixSigns() {
        for (int n = 0; n <= 8; n++) {
            for (String side : new String[] {"", "'"}) {
                FrameReader x = withJoint();
                DUE.is("8: signs " + n + side, Feeder.mark(x, 0, "XXVI?IVX".substring(0, n) + side), n <= 6 ? n : NONE);
                dueTape("8: signs " + n + side, x, 0);
                DUE.is("14: how many", x.at(0, 4), n <= 6 ? n : 0);
                DUE.is("14: side", x.at(0, 5), n <= 6 && side.length() == 1 ? 1 : 0);
                for (int i = 0; i < 9; i++) {
                    int want = n <= 6 && i < n ? "XXVI?IVX".charAt(i) : NONE;
                    DUE.is("14: sign " + i + " of " + n, x.at(0, 10 + i), want);
                }
            }
        }
        FrameReader x = withJoint();
        Feeder.feed(x, "X".repeat(800));
        DUE.is("8: all of the tape", x.mark(0), NONE);
        dueTape("8: all of the tape", x, 0);
    }

    /** 8, Terms: "I, V, X, ?" and no other byte. */
    private static void signsAlone() {
        for (int b = 0; b < 256; b++) {
            FrameReader x = withJoint();
            String sign = String.valueOf((char) b);
            boolean is = "IVX?".indexOf(b) >= 0;
            boolean side = b == '\'';
            DUE.is("8: byte " + b, Feeder.mark(x, 0, sign), is ? 1 : side ? 0 : NONE);
            DUE.is("8: first " + b, Feeder.mark(x, 0, sign + "V"), is ? 2 : NONE);
            DUE.is("8: between " + b, Feeder.mark(x, 0, "I" + sign + "V"), is ? 3 : NONE);
            DUE.is("8: last " + b, Feeder.mark(x, 0, "IV" + sign), is ? 3 : side ? 2 : NONE);
            DUE.is("8: sixth " + b, Feeder.mark(x, 0, "IVXIV" + sign), is ? 6 : side ? 5 : NONE);
            DUE.is("8: seventh " + b, Feeder.mark(x, 0, "IVXIVX" + sign), side ? 6 : NONE);
        }
    }

    /** 8, Terms: "and, behind them, perhaps ' (its SIDE is 1 then, else 0)". */
    private static void sideBehind() {
        FrameReader x = withJoint();
        DUE.is("14: at first", x.at(0, 5), 0);
        DUE.is("8: '", Feeder.mark(x, 0, "'"), 0);
        DUE.is("14: ' alone", x.at(0, 5), 1);
        DUE.is("8: ''", Feeder.mark(x, 0, "''"), NONE);
        DUE.is("8: I''", Feeder.mark(x, 0, "I''"), NONE);
        DUE.is("8: 'I", Feeder.mark(x, 0, "'I"), NONE);
        DUE.is("8: 'I'", Feeder.mark(x, 0, "'I'"), NONE);
        DUE.is("14: no signs still", x.at(0, 4), 0);
        DUE.is("14: side still", x.at(0, 5), 1);
        DUE.is("8: nothing", Feeder.mark(x, 0, ""), 0);
        DUE.is("14: no side again", x.at(0, 5), 0);
    }

    /** 8: "NONE, and nothing else is done: .. or 200 MARKS were told" (of all JOINTS, refused ones not counted). */
    private static void twoHundredMarks() {
        FrameReader x = withJoint();
        x.joint(0, 0, 1, 1);
        DUE.is("8: wrong ones don't count", x.mark(2), NONE);
        DUE.is("8: wrong ones don't count", Feeder.mark(x, 0, "A"), NONE);
        for (int i = 1; i <= 198; i++) {
            DUE.is("8: mark " + i, x.mark(i % 2), 0);
        }
        DUE.is("8: mark 199", Feeder.mark(x, 0, "V"), 1);
        DUE.is("8: a wrong one", Feeder.mark(x, 0, "A"), NONE);
        DUE.is("8: mark 200", Feeder.mark(x, 0, "VI"), 2);
        DUE.is("8: mark 201", Feeder.mark(x, 0, "VII"), NONE);
        dueTape("8: mark 201", x, 0);
        DUE.is("8: mark 201 without a sign", x.mark(1), NONE);
        DUE.is("14: mark 200 stays", x.at(0, 4), 2);
        DUE.is("14: mark 198 stays", x.at(1, 4), 0);
        FrameReader y = withJoint();
        for (int i = 1; i <= 200; i++) {
            DUE.is("8: of one joint " + i, y.mark(0), 0);
        }
        DUE.is("8: the 201st of it", y.mark(0), NONE);
    }

    /** 8: "NONE, and nothing else is done: no such JOINT, it is no MARK": the TAPE is empty, and the MARK stays. */
    private static void noMark() {
        FrameReader x = withJoint();
        Feeder.mark(x, 0, "IV'");
        for (int j : new int[] {SMALL, -1, 1, 2, 48, BIG}) {
            DUE.is("8: of joint " + j, Feeder.mark(x, j, "X"), NONE);
            dueTape("8: of joint " + j, x, 0);
        }
        for (String wrong : new String[] {"XXXXXXX", "IA", "\0", "i", "I V", "I\n"}) {
            DUE.is("8: no mark " + wrong, Feeder.mark(x, 0, wrong), NONE);
            dueTape("8: no mark " + wrong, x, 0);
        }
        DUE.is("14: signs stay", x.at(0, 4), 2);
        DUE.is("14: the last one stays", x.at(0, 11), 'V');
        DUE.is("14: side stays", x.at(0, 5), 1);
    }

    /** 8: "The TAPE, empty then, is the MARK of JOINT j (any that came)", whatever THE VIEW. */
    private static void markOfAnyThatCame() {
        FrameReader x = withJoint();
        x.days(1);
        x.joint(0, 0, 1, 1);
        x.view(0);
        DUE.is("8: of 0, which the view has", Feeder.mark(x, 0, "V"), 1);
        DUE.is("8: of 1, which it has not", Feeder.mark(x, 1, "XX"), 2);
        DUE.is("8: of 2, which never came", Feeder.mark(x, 2, "XXX"), NONE);
        DUE.is("14: of 0 on 0", x.at(0, 4), 0);
        DUE.is("14: of 1 on 0", x.at(1, 4), NONE);
        x.view(1);
        DUE.is("14: of 0 on 1", x.at(0, 4), 1);
        DUE.is("14: of 1 on 1", x.at(1, 4), 2);
    }

    /** 8, 9: the empty TAPE is a MARK without a sign, and a CUSTOM without a line. */
    private static void emptyTape() {
        FrameReader x = withJoint();
        Feeder.mark(x, 0, "IV'");
        DUE.is("8: empty", x.mark(0), 0);
        DUE.is("14: no signs", x.at(0, 4), 0);
        DUE.is("14: no side", x.at(0, 5), 0);
        DUE.is("14: no first sign", x.at(0, 10), NONE);
        Feeder.custom(x, 0, "slack 3;post into post;post ahead beam;four less;turn;");
        DUE.is("9: empty", x.custom(0), 0);
        dueFirstCustom("9: empty", x, 0);
        Feeder.custom(x, 0, "slack 3;");
        DUE.is("9: blanks", Feeder.custom(x, 0, " \n"), 0);
        dueFirstCustom("9: blanks", x, 0);
    }

    /** 9, Terms: "3 (at its first KEYWORD) the 41st line". */
    private static void fortyLines() {
        String[] lines = {"turn;", "slack 2 ;", "sap 5 to 9;", "post into beam;", "post ahead brace\n;", "four add;"};
        for (String line : lines) {
            for (int n : new int[] {1, 2, 39, 40, 41, 42}) {
                FrameReader x = new FrameReader();
                Feeder.custom(x, 0, "stock 42;");
                DUE.is("9: " + n + " lines of " + line, Feeder.custom(x, 0, line.repeat(n)), n <= 40 ? n : NONE);
                dueTape("9: " + n + " lines of " + line, x, 0);
                DUE.is("10: fault", x.fault(0), n <= 40 ? 0 : 3);
                DUE.is("10: place", x.fault(1), n <= 40 ? NONE : 40 * line.length());
                DUE.is("12: as it is", x.customs(0, 8), n <= 40 ? 2 : 42);
            }
        }
        FrameReader x = new FrameReader();
        DUE.is("9: blanks ahead of it", Feeder.custom(x, 0, "turn;".repeat(40) + "\n turn;"), NONE);
        DUE.is("10: at its keyword", x.fault(1), 202);
        DUE.is("9: blanks alone", Feeder.custom(x, 0, "turn;".repeat(40) + "\n "), 40);
        Object[][] behind = {{"slack 4;", 3}, {"slack", 3}, {"four", 3}, {"post;", 3}, {"post into post", 3},
            {"add;", 1}, {";", 1}, {"5;", 1}, {"tur;", 1}, {"to;", 1}, {"#", 1}};
        for (Object[] b : behind) {
            DUE.is("9: 41st " + b[0], Feeder.custom(x, 0, "turn;".repeat(40) + b[0]), NONE);
            DUE.is("10: the least fault at one place, " + b[0], x.fault(0), (Integer) b[1]);
            DUE.is("10: its place, " + b[0], x.fault(1), 200);
        }
    }

    /** 9, Terms: "2 (at the NUMBER) a slack above 3, a hold above 5, a margin above 9". */
    private static void limitsOfNumbers() {
        Object[][] rules = {{"slack ", 3, 2}, {"hold ", 5, 3}, {"margin ", 9, 5}, {"level ", 99, 4}, {"stock ", 99, 8}};
        for (Object[] rule : rules) {
            String word = (String) rule[0];
            int most = (Integer) rule[1];
            for (int n : new int[] {0, 1, most - 1, most, most + 1, most + 2, 99}) {
                FrameReader x = new FrameReader();
                boolean right = n <= most;
                int lines = Feeder.custom(x, 1, word + n + ";");
                DUE.is("9: " + word + n, lines, right ? 1 : NONE);
                int fault = n > 99 ? 1 : 2;
                DUE.is("10: " + word + n, x.fault(0), right ? 0 : fault);
                DUE.is("10: place of " + word + n, x.fault(1), right ? NONE : word.length());
                int first = new FrameReader().customs(1, (Integer) rule[2]);
                DUE.is("12: " + word + n, x.customs(1, (Integer) rule[2]), right ? n : first);
            }
        }
    }

    /** 9, Terms: "2 (at the NUMBER) .. the second of sap below the first". */
    private static void sapInOrder() {
        for (int first : new int[] {0, 1, 9, 10, 50, 98, 99}) {
            for (int second : new int[] {0, first - 1, first, first + 1, 99}) {
                if (second < 0 || second > 99) {
                    continue;
                }
                FrameReader x = new FrameReader();
                String text = "sap " + first + " to ";
                boolean right = second >= first;
                DUE.is("9: " + text + second, Feeder.custom(x, 0, text + second + ";"), right ? 1 : NONE);
                DUE.is("10: fault of " + text + second, x.fault(0), right ? 0 : 2);
                DUE.is("10: place of " + text + second, x.fault(1), right ? NONE : text.length());
                DUE.is("12: first of " + text + second, x.customs(0, 6), right ? first : 10);
                DUE.is("12: second of " + text + second, x.customs(0, 7), right ? second : 30);
            }
        }
    }

    /** 9, Terms: "digits as many as stand together NUMBERS of 1 or 2 digits or none". */
    private static void digitsOfNumbers() {
        String[] digits = {"", "3", "03", "003", "0003", "9999999999"};
        for (String number : digits) {
            FrameReader x = new FrameReader();
            boolean right = number.length() == 1 || number.length() == 2;
            DUE.is("9: stock " + number, Feeder.custom(x, 0, "stock " + number + ";"), right ? 1 : NONE);
            DUE.is("10: fault of " + number, x.fault(0), right ? 0 : 1);
            DUE.is("10: place of " + number, x.fault(1), right ? NONE : 6);
            DUE.is("12: stock " + number, x.customs(0, 8), right ? 3 : 2);
            DUE.is("9: apart", Feeder.custom(x, 0, "stock " + number + " 3;"), number.isEmpty() ? 1 : NONE);
        }
        FrameReader x = new FrameReader();
        DUE.is("9: /", Feeder.custom(x, 0, "stock /;"), NONE);
        DUE.is("9: 0", Feeder.custom(x, 0, "stock 0;"), 1);
        DUE.is("9: 9", Feeder.custom(x, 0, "stock 9;"), 1);
        DUE.is("9: :", Feeder.custom(x, 0, "stock :;"), NONE);
        DUE.is("9: nothing between", Feeder.custom(x, 0, "stock7;slack2;sap1to2;hold 1"), NONE);
        DUE.is("10: the end alone", x.fault(1), 28);
    }

    /** 9, Terms: "Blanks (32, 10) between", and any other byte can't stand there. */
    private static void blanks() {
        for (int b = 0; b < 128; b++) {
            FrameReader x = new FrameReader();
            String text = "turn" + (char) b + ";turn;";
            boolean blank = b == 32 || b == 10;
            DUE.is("9: turn, byte " + b, Feeder.custom(x, 0, text), blank ? 2 : NONE);
            DUE.is("10: fault of byte " + b, x.fault(0), blank ? 0 : 1);
            int place = Character.isLetter(b) ? 0 : b == ';' ? 5 : 4;
            DUE.is("10: place of byte " + b, x.fault(1), blank ? NONE : place);
            DUE.is("9: byte " + b + " first", Feeder.custom(x, 0, (char) b + ";"), NONE);
            DUE.is("10: place of first byte " + b, x.fault(1), blank ? 1 : 0);
        }
        for (int b = 128; b < 256; b++) {
            FrameReader x = new FrameReader();
            DUE.is("9: byte " + b, Feeder.custom(x, 0, "turn;" + (char) b), NONE);
            DUE.is("10: fault of byte " + b, x.fault(0), 1);
            DUE.is("10: place of byte " + b, x.fault(1), 5);
        }
    }

    /** 9, Terms: "letters as many as stand together are KEYWORDS (those told here) or none". */
    private static void wholeKeywords() {
        for (String word : KEYWORDS) {
            FrameReader x = new FrameReader();
            String[] near = {word.substring(1), word.substring(0, word.length() - 1), word + "s", "a" + word,
                word + word, word.toUpperCase(), word + " " + word};
            for (String text : near) {
                DUE.is("9: none such, " + text, Feeder.custom(x, 0, text + ";"), NONE);
                DUE.is("10: fault of " + text, x.fault(0), 1);
            }
            boolean first = FIRST_WORDS.contains(" " + word + " ");
            DUE.is("9: alone, " + word, Feeder.custom(x, 0, word + ";"), word.equals("turn") ? 1 : NONE);
            if (!word.equals("turn")) {
                DUE.is("10: place of " + word + ";", x.fault(1), first ? word.length() : 0);
            }
        }
        for (int k = 0; k < 4; k++) {
            for (int m = 0; m < 4; m++) {
                FrameReader x = new FrameReader();
                DUE.is("9: into", Feeder.custom(x, 0, KINDS[k] + " into " + KINDS[m] + ";"), 1);
                DUE.is("9: ahead", Feeder.custom(x, 1, KINDS[k] + " ahead " + KINDS[m] + ";"), 1);
                for (int pair = 0; pair < 16; pair++) {
                    DUE.is("12: into " + pair, x.customs(0, 10 + pair), pair == 4 * k + m ? 1 : 0);
                    DUE.is("12: not ahead " + pair, x.customs(0, 30 + pair), 0);
                    DUE.is("12: ahead " + pair, x.customs(1, 30 + pair), pair == 4 * k + m && k != m ? 1 : 0);
                    DUE.is("12: not into " + pair, x.customs(1, 10 + pair), 0);
                }
            }
        }
    }

    /** 9, 10, Terms: "1 what can't stand there": in each place of each line each KEYWORD, and what is near to one. */
    private static void whatCanStand() {
        for (String line : LINES) {
            String[] tokens = line.replace("K", "rafter").replace("N", "2").split(" ");
            for (int i = 0; i < tokens.length; i++) {
                String right = tokens[i];
                for (String word : KEYWORDS) {
                    tokens[i] = word;
                    dueLine(tokens);
                }
                for (String other : new String[] {";", "2", "02", "002", "#", "'", "a", "zzzzzzz", "four2", "post;"}) {
                    tokens[i] = other;
                    dueLine(tokens);
                }
                for (int k = 0; k < right.length() && right.length() > 1; k++) {
                    tokens[i] = right.substring(0, k) + 'q' + right.substring(k + 1);
                    dueLine(tokens);
                    tokens[i] = right.substring(0, k) + 'q' + right.substring(k);
                    dueLine(tokens);
                    tokens[i] = right.substring(0, k) + ' ' + right.substring(k);
                    dueLine(tokens);
                }
                tokens[i] = right;
            }
            dueLine(tokens);
        }
    }

    /** Goes by the first token of them that no line has behind the ones ahead of it. */
    private static void dueLine(String[] tokens) {
        String text = String.join(" ", tokens);
        int wrong = firstWrong(text);
        FrameReader x = new FrameReader();
        DUE.is("9: " + text, Feeder.custom(x, 0, text), wrong == NONE ? linesOf(text) : NONE);
        DUE.is("10: fault of " + text, x.fault(0), wrong == NONE ? 0 : 1);
        DUE.is("10: place of " + text, x.fault(1), wrong);
    }

    private static int linesOf(String text) {
        return (int) text.chars().filter(b -> b == ';').count();
    }

    /** The place of the first token that can't stand, NONE without one; for NUMBERS that are no fault themselves. */
    private static int firstWrong(String text) {
        java.util.regex.Matcher token = java.util.regex.Pattern.compile("[a-z]+|[0-9]+|[^ ]").matcher(text);
        String line = "";
        while (token.find()) {
            String next = token.group();
            if (next.matches("post|beam|rafter|brace")) {
                next = "K";
            } else if (next.matches("[0-9]{1,2}")) {
                next = "N";
            }
            line = line + next + " ";
            boolean begins = false;
            for (String known : LINES) {
                begins |= (known + " ").startsWith(line);
            }
            if (!begins) {
                return token.start();
            }
            line = next.equals(";") ? "" : line;
        }
        return line.isEmpty() ? NONE : text.length();
    }

    /** 9, 10, Terms: "(the end: the text's length)". */
    private static void faultAtTheEnd() {
        String[] begun = {"turn", "four", "four add", "slack", "slack 3", "post", "post into", "post into beam",
            "post ahead", "sap", "sap 1", "sap 1 to", "sap 1 to 2", "hold 1", "level 1", "margin 1", "stock 1"};
        for (String text : begun) {
            FrameReader x = new FrameReader();
            for (String more : new String[] {"", " ", "\n  "}) {
                DUE.is("9: begun " + text, Feeder.custom(x, 0, text + more), NONE);
                DUE.is("10: fault of " + text, x.fault(0), 1);
                DUE.is("10: the end of " + text, x.fault(1), text.length() + more.length());
            }
        }
        for (int n = 799; n <= 800; n++) {
            FrameReader x = new FrameReader();
            DUE.is("9: begun at " + n, Feeder.custom(x, 0, " ".repeat(n - 4) + "turn"), NONE);
            DUE.is("10: place " + n, x.fault(1), n);
            DUE.is("9: closed at " + n, Feeder.custom(x, 0, " ".repeat(n - 5) + "turn;"), 1);
            DUE.is("9: twice closed at " + n, Feeder.custom(x, 0, " ".repeat(n - 6) + "turn;;"), NONE);
            DUE.is("10: place " + (n - 1), x.fault(1), n - 1);
        }
    }

    /** 10, Terms: "FAULTS, the first by its place, at one place the least". */
    private static void firstFault() {
        Object[][] rows = {{"slack 4;slack x;", 2, 6}, {"slack x;slack 4;", 1, 6}, {"slack 4 4;", 2, 6},
            {"slack 4", 2, 6}, {"slack 100;slack 4;", 1, 6}, {"sap 9 to 8 8;", 2, 9}, {"sap 9 by 8;", 1, 6},
            {"hold 6;margin 10;", 2, 5}, {"turn;;slack 4;", 1, 5}, {"#slack 4;", 1, 0}, {"slack 4#;", 2, 6}};
        FrameReader x = new FrameReader();
        for (Object[] row : rows) {
            DUE.is("9: " + row[0], Feeder.custom(x, 0, (String) row[0]), NONE);
            DUE.is("10: fault of " + row[0], x.fault(0), (Integer) row[1]);
            DUE.is("10: place of " + row[0], x.fault(1), (Integer) row[2]);
        }
        DUE.is("9: ahead of line 41", Feeder.custom(x, 0, "hold 6;" + "turn;".repeat(40)), NONE);
        DUE.is("10: fault 2", x.fault(0), 2);
        DUE.is("10: place 5", x.fault(1), 5);
        DUE.is("9: in line 40", Feeder.custom(x, 0, "turn;".repeat(39) + "hold 6;turn;"), NONE);
        DUE.is("10: fault 2", x.fault(0), 2);
        DUE.is("10: place 200", x.fault(1), 200);
    }

    /** 10: "Of the latest custom() of 0 or 1: what 0 the FAULT (0 without one), 1 its place (NONE)." */
    private static void faultsKept() {
        FrameReader x = new FrameReader();
        Feeder.custom(x, 1, "hold 6;");
        for (int c : new int[] {SMALL, -1, 2, BIG}) {
            DUE.is("9: custom " + c, x.custom(c), NONE);
            DUE.is("10: fault stays", x.fault(0), 2);
            DUE.is("10: place stays", x.fault(1), 5);
        }
        for (int what : new int[] {SMALL, -1, 2, 3, BIG}) {
            DUE.is("10: fault " + what, x.fault(what), NONE);
        }
        Feeder.mark(x, 0, "A");
        DUE.is("10: no mark is no fault", x.fault(0), 2);
        DUE.is("9: the other one", x.custom(0), 0);
        DUE.is("10: no fault", x.fault(0), 0);
        DUE.is("10: no place", x.fault(1), NONE);
        Feeder.custom(x, 0, ";");
        DUE.is("10: of 0", x.fault(0), 1);
        DUE.is("10: at 0", x.fault(1), 0);
    }

    /** 9, Terms: "Later lines stand in place of the earlier ones (into, ahead: besides them; if both .., none is)". */
    private static void laterLines() {
        FrameReader x = new FrameReader();
        DUE.is("9: told twice", Feeder.custom(x, 0, "four add;four less;slack 3;slack 0;hold 5;hold 0;level 9;level 0;"
            + "margin 9;margin 0;sap 9 to 9;sap 0 to 0;stock 9;stock 0;turn;turn;"), 16);
        int[] want = {2, 1, 0, 0, 0, 0, 0, 0, 0};
        for (int what = 0; what < want.length; what++) {
            DUE.is("12: the later " + what, x.customs(0, what), want[what]);
        }
        String besides = "post into beam;beam into post;post ahead beam;post ahead rafter;";
        DUE.is("9: besides", Feeder.custom(x, 0, besides), 4);
        DUE.is("12: into", x.customs(0, 11), 1);
        DUE.is("12: into", x.customs(0, 14), 1);
        DUE.is("12: ahead", x.customs(0, 31), 1);
        DUE.is("12: ahead", x.customs(0, 32), 1);
        Feeder.custom(x, 0, "post ahead beam;post ahead rafter;beam ahead post;post ahead beam;");
        DUE.is("12: both, so none", x.customs(0, 31), 0);
        DUE.is("12: both, so none", x.customs(0, 34), 0);
        DUE.is("12: the one alone", x.customs(0, 32), 1);
    }

    /** 9, Terms: "by a new CUSTOM ahead of its lines": nothing of what was told ahead of it. */
    private static void newLinesAlone() {
        String all = "four add;turn;slack 3;post into beam;post ahead beam;hold 5;level 9;margin 9;sap 9 to 9;stock 9;";
        FrameReader x = new FrameReader();
        for (int i = 0; i < 3; i++) {
            DUE.is("9: all", Feeder.custom(x, 0, all), 10);
            DUE.is("9: nothing", Feeder.custom(x, 0, " "), 0);
            DUE.is("12: no turn", x.customs(0, 1), 0);
            DUE.is("9: begun with all", Feeder.custom(x, 0, all + "hold 6;"), NONE);
            DUE.is("9: one line", Feeder.custom(x, 0, "stock 3;"), 1);
            int[] want = {3, 0, 1, 2, 60, 1, 10, 30, 3};
            for (int what = 0; what < want.length; what++) {
                DUE.is("12: stock alone, what " + what, x.customs(0, what), want[what]);
            }
            DUE.is("12: not into", x.customs(0, 11), 0);
            DUE.is("12: not ahead", x.customs(0, 31), 0);
            DUE.is("9: nothing", x.custom(0), 0);
        }
        dueFirstCustom("9: nothing", x, 0);
        dueFirstCustom("9: the other", x, 1);
    }

    /** 9: "NONE: none such, or a FAULT (the CUSTOM stays; the TAPE is empty then, too)". */
    private static void noSuchCustom() {
        FrameReader x = new FrameReader();
        Feeder.custom(x, 0, "stock 40;");
        Feeder.custom(x, 1, "stock 41;");
        for (int c : new int[] {SMALL, -2, -1, 2, 3, BIG}) {
            DUE.is("9: custom " + c, Feeder.custom(x, c, "stock 9;"), NONE);
            dueTape("9: custom " + c, x, 0);
        }
        for (int c = 0; c < 2; c++) {
            DUE.is("9: fault in " + c, Feeder.custom(x, c, "stock 9;slack 4;"), NONE);
            dueTape("9: fault in " + c, x, 0);
            DUE.is("12: it stays", x.customs(c, 8), 40 + c);
            DUE.is("12: its slack stays", x.customs(c, 2), 1);
        }
        DUE.is("9: custom 0", Feeder.custom(x, 0, "hold 1;"), 1);
        DUE.is("12: a new one", x.customs(0, 8), 2);
        DUE.is("12: the other stays", x.customs(1, 8), 41);
    }
}
