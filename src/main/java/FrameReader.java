import java.util.Arrays;

/** Reads old timber frames: joins, frames, raisings, felling years and leans, as they were known on any day. */
public final class FrameReader {
    public static final int NONE = -1;

    private static final int TIMBERS = 16;
    private static final int JOINTS = 48;
    private static final int KINDS = 4;
    private static final int TENON = 0;
    private static final int HOLE = 1;
    private static final int LAST_DAY = 9999;
    private static final int LAST_YEAR = 999;
    private static final int LAST_FALL = 9999;
    private static final int NO_LEAN = NONE - 999;
    private static final int OUT_ROOM = 200;

    private final Tape tape;
    private final CustomText text;
    private final Custom[] rules;
    private final Timbers timbers;
    private final Marks marks;
    private final Join[] joins;
    private final Frames[] groups;
    private final Raising raising;
    private final Rings rings;
    private final Built building;
    private final Leans tilts;
    private final int[] written;
    private int writtenLength;
    private Custom draft;
    private int now;
    private int viewDay;
    private boolean stale;

    public FrameReader() {
        tape = new Tape();
        text = new CustomText();
        rules = new Custom[] {new Custom(), new Custom()};
        timbers = new Timbers();
        marks = new Marks();
        joins = new Join[] {new Join(), new Join()};
        groups = new Frames[] {new Frames(), new Frames()};
        raising = new Raising();
        rings = new Rings();
        building = new Built();
        tilts = new Leans();
        written = new int[OUT_ROOM];
        writtenLength = 0;
        draft = new Custom();
        now = 0;
        viewDay = NONE;
        stale = true;
    }

    public int days(int n) {
        if (n < 1 || n > 1000 || now + n > LAST_DAY) {
            return NONE;
        }
        now += n;
        return now;
    }

    public boolean view(int day) {
        if (day < NONE || day > now) {
            return false;
        }
        viewDay = day;
        marks.showUpTo(lastDaySeen());
        stale = true;
        return true;
    }

    public int timber(int kind, int length) {
        return timbers.addTimber(kind, length, now);
    }

    public int joint(int t, int place, int sort, int size) {
        int j = timbers.addJoint(t, place, sort, size, now);
        stale = true;
        return j;
    }

    public int feed(int a, int b, int c, int d, int e) {
        if (!tape.hasRoomFor(20)) {
            return NONE;
        }
        tape.push(a);
        tape.push(b);
        tape.push(c);
        tape.push(d);
        tape.push(e);
        return tape.size();
    }

    public boolean end(int n) {
        return tape.cut(n);
    }

    public int mark(int j) {
        int signs = timbers.hasJoint(j) ? marks.tell(j, now, tape) : NONE;
        tape.clear();
        if (signs != NONE) {
            marks.showUpTo(lastDaySeen());
            stale = true;
        }
        return signs;
    }

    public int custom(int c) {
        if (!isCustom(c)) {
            tape.clear();
            return NONE;
        }
        int lines = text.parse(tape, draft);
        tape.clear();
        if (lines == NONE) {
            return NONE;
        }
        Custom old = rules[c];
        rules[c] = draft;
        draft = old;
        stale = true;
        return lines;
    }

    public int fault(int what) {
        if (what == 0) {
            return text.faultKind();
        }
        return what == 1 ? text.faultPlace() : NONE;
    }

    public int look(int what) {
        switch (what) {
            case 0: return now;
            case 1: return viewDay;
            case 2: return timbersSeen();
            case 3: return jointsSeen();
            case 4: return countReused();
            case 5: return countIdle(HOLE);
            case 6: return countIdle(TENON);
            default: return NONE;
        }
    }

    public int customs(int c, int what) {
        return isCustom(c) ? rules[c].value(what) : NONE;
    }

    public int of(int t, int what) {
        if (!isTimber(t)) {
            return NONE;
        }
        switch (what) {
            case 0: return timbers.kindOf(t);
            case 1: return timbers.lengthOf(t);
            case 2: return timbers.jointsOf(t, jointsSeen());
            case 3: return rings.ringsSeen(t, lastDaySeen());
            case 4: return rings.sapTold(t);
            case 5: return rings.barkTold(t) ? 1 : 0;
            case 6: return timbers.dayOf(t);
            default: return NONE;
        }
    }

    public int at(int j, int what) {
        if (!isJoint(j)) {
            return NONE;
        }
        switch (what) {
            case 0: return timbers.timberOf(j);
            case 1: return timbers.placeOf(j);
            case 2: return timbers.sortOf(j);
            case 3: return timbers.sizeOf(j);
            case 4: return marks.signsOn(j);
            case 5: return marks.sideOf(j);
            default: return what >= 10 ? marks.signAt(j, what - 10) : NONE;
        }
    }

    public long reads(int c, int j) {
        return isCustom(c) && isJoint(j) ? marks.numbersOn(j, rules[c]) : NONE;
    }

    public int fits(int c, int t, int h) {
        if (!isCustom(c) || !isJoint(t) || !isJoint(h)
                || timbers.sortOf(t) != TENON || timbers.sortOf(h) != HOLE) {
            return NONE;
        }
        return agreeInNumbers(rules[c], t, h) && canFit(rules[c], t, h) ? 1 : 0;
    }

    public int join(int c, int what) {
        if (!isCustom(c)) {
            return NONE;
        }
        refresh();
        switch (what) {
            case 0: return joins[c].pairCount();
            case 1: return joins[c].moreInAll();
            case 2: return joins[c].forcedCount();
            case 3: return groups[c].size();
            default: return NONE;
        }
    }

    public int mate(int c, int j) {
        if (!isCustom(c) || !isJoint(j)) {
            return NONE;
        }
        refresh();
        return joins[c].partnerOf(j);
    }

    public int forced(int c, int j) {
        if (!isCustom(c) || !isJoint(j)) {
            return NONE;
        }
        refresh();
        if (joins[c].partnerOf(j) == NONE) {
            return NONE;
        }
        return joins[c].isForced(j) ? 1 : 0;
    }

    public int frameOf(int c, int t) {
        if (!isCustom(c) || !isTimber(t)) {
            return NONE;
        }
        refresh();
        return groups[c].holding(t);
    }

    public int frame(int c, int f, int what) {
        if (!isFrame(c, f)) {
            return NONE;
        }
        switch (what) {
            case 0: return groups[c].membersOf(f);
            case 1: return groups[c].pairsOf(f);
            case 2: return raise(c, f).mostOf(f);
            case 3: return raise(c, f).ordersOf(f) > 0 ? 1 : 0;
            default: return NONE;
        }
    }

    public long orders(int c, int f) {
        return isFrame(c, f) ? raise(c, f).ordersOf(f) : NONE;
    }

    public int raised(int c, int f, int i) {
        return isFrame(c, f) ? raise(c, f).stepOf(f, i) : NONE;
    }

    public boolean master(int year, int width) {
        return rings.tellMaster(year, width);
    }

    public int ring(int t, int width) {
        return timbers.hasTimber(t) ? rings.addRing(t, width, now) : NONE;
    }

    public boolean sap(int t, int n, boolean bark) {
        return timbers.hasTimber(t) && rings.tellSap(t, n, bark);
    }

    public int date(int c, int t, int what) {
        if (!isCustom(c) || !isTimber(t)) {
            return NONE;
        }
        rings.dateBy(rules[c], t, lastDaySeen());
        return rings.dated(what);
    }

    public int built(int c, int f, int what) {
        if (!isFrame(c, f)) {
            return NONE;
        }
        building.begin();
        for (int t = 0; t < TIMBERS; t++) {
            if ((groups[c].membersOf(f) >> t & 1) == 1) {
                rings.dateBy(rules[c], t, lastDaySeen());
                if (rings.isSure()) {
                    building.addSpan(rings.dated(5), rings.dated(6));
                }
            }
        }
        building.settle();
        return building.found(what);
    }

    public boolean lean(int t, int year, int far) {
        return timbers.hasTimber(t) && tilts.tell(t, year, far, now);
    }

    public int leans(int t, int what) {
        if (!isTimber(t)) {
            return NO_LEAN;
        }
        tilts.measure(t, lastDaySeen());
        return tilts.measured(what);
    }

    public int falls(int t, int bound) {
        if (!isTimber(t) || bound < 0 || bound > 999) {
            return NONE;
        }
        tilts.measure(t, lastDaySeen());
        return tilts.fallYear(bound);
    }

    public int write(int c) {
        if (!isCustom(c)) {
            return NONE;
        }
        refresh();
        writtenLength = 0;
        for (int t = 0; t < JOINTS; t++) {
            int h = joins[c].partnerOf(t);
            if (h != NONE && timbers.sortOf(t) == TENON) {
                putNumber(t);
                putByte('-');
                putNumber(h);
                if (joins[c].isForced(t)) {
                    putByte('!');
                }
                putByte(';');
            }
        }
        return writtenLength;
    }

    public int out(int i) {
        return i >= 0 && i < writtenLength && i < OUT_ROOM ? written[i] : NONE;
    }

    private void putNumber(int n) {
        if (n >= 10) {
            putByte('0' + n / 10);
        }
        putByte('0' + n % 10);
    }

    private void putByte(int b) {
        if (writtenLength < OUT_ROOM) {
            written[writtenLength] = b;
            writtenLength++;
        }
    }

    private int lastDaySeen() {
        return viewDay == NONE ? LAST_DAY : viewDay;
    }

    private int timbersSeen() {
        return timbers.timbersUpTo(lastDaySeen());
    }

    private int jointsSeen() {
        return timbers.jointsUpTo(lastDaySeen());
    }

    private boolean isCustom(int c) {
        return c == 0 || c == 1;
    }

    private boolean isTimber(int t) {
        return t >= 0 && t < timbersSeen();
    }

    private boolean isJoint(int j) {
        return j >= 0 && j < jointsSeen();
    }

    private boolean isFrame(int c, int f) {
        if (!isCustom(c)) {
            return false;
        }
        refresh();
        return f >= 0 && f < groups[c].size();
    }

    private boolean agreeInNumbers(Custom custom, int t, int h) {
        return (marks.numbersOn(t, custom) & marks.numbersOn(h, custom)) != 0;
    }

    /** All that FITS asks but the numbers, which a caller may hold already. */
    private boolean canFit(Custom custom, int t, int h) {
        int from = timbers.timberOf(t);
        int into = timbers.timberOf(h);
        int more = timbers.sizeOf(h) - timbers.sizeOf(t);
        if (from == into || more < 0 || more > custom.slack) {
            return false;
        }
        if (!custom.goesInto(timbers.kindOf(from), timbers.kindOf(into))) {
            return false;
        }
        return marks.signsOn(t) == 0 || marks.signsOn(h) == 0 || marks.sideOf(t) == marks.sideOf(h);
    }

    /** Joins and frames are made anew only when something they rest on was told. */
    private void refresh() {
        if (!stale) {
            return;
        }
        stale = false;
        int seen = jointsSeen();
        joins[0].begin();
        joins[1].begin();
        for (int c = 0; c < 2; c++) {
            Join join = joins[c];
            for (int j = 0; j < seen; j++) {
                join.keepNumbers(j, marks.numbersOn(j, rules[c]));
            }
            addFits(c, seen);
            join.fill();
            join.chooseHoles();
            join.findForced();
            groups[c].gather(join, timbers);
        }
    }

    /** While CUSTOM 0 is joined nobody has a partner yet, so its idle ones are all. */
    private void addFits(int c, int seen) {
        Join join = joins[c];
        for (int t = 0; t < seen; t++) {
            if (timbers.sortOf(t) != TENON || joins[0].partnerOf(t) != NONE) {
                continue;
            }
            for (int h = 0; h < seen; h++) {
                if (timbers.sortOf(h) == HOLE && joins[0].partnerOf(h) == NONE
                        && join.shareNumber(t, h) && canFit(rules[c], t, h)) {
                    join.addArc(t, h, timbers.sizeOf(h) - timbers.sizeOf(t));
                }
            }
        }
    }

    private Frames raise(int c, int f) {
        Frames frames = groups[c == 1 ? 1 : 0];
        if (!frames.isRaised(f)) {
            raising.raise(frames, f, timbers, rules[c == 1 ? 1 : 0]);
        }
        return frames;
    }

    private int countReused() {
        refresh();
        int count = 0;
        for (int t = 0; t < TIMBERS; t++) {
            if (groups[0].holding(t) != NONE && groups[1].holding(t) != NONE) {
                count++;
            }
        }
        return count;
    }

    private int countIdle(int sort) {
        refresh();
        int seen = jointsSeen();
        int count = 0;
        for (int j = 0; j < seen; j++) {
            if (timbers.sortOf(j) == sort && joins[0].partnerOf(j) == NONE && joins[1].partnerOf(j) == NONE) {
                count++;
            }
        }
        return count;
    }

    private static int pick(int[] row, int i) {
        return i >= 0 && i < row.length ? row[i] : NONE;
    }

    /** The bytes fed and not yet used. */
    private static final class Tape {
        static final int ROOM = 800;

        private final int[] bytes = new int[ROOM];
        private int length = 0;

        boolean hasRoomFor(int n) {
            return length + n <= ROOM;
        }

        void push(int number) {
            for (int shift = 24; shift >= 0; shift -= 8) {
                if (length < ROOM) {
                    bytes[length] = number >>> shift & 255;
                    length++;
                }
            }
        }

        boolean cut(int n) {
            if (n < 0 || n > length) {
                return false;
            }
            length = n;
            return true;
        }

        void clear() {
            length = 0;
        }

        int size() {
            return length;
        }

        /** NONE behind the last byte. */
        int byteAt(int i) {
            return i >= 0 && i < length && i < ROOM ? bytes[i] : NONE;
        }
    }

    /** What one CUSTOM says. */
    private static final class Custom {
        static final int ADD = 1;
        static final int LESS = 2;
        static final int BOTH = 3;

        int four;
        boolean turn;
        int slack;
        int hold;
        int level;
        int margin;
        int sapFirst;
        int sapSecond;
        int stock;
        private int intoSet;
        private int aheadSet;

        Custom() {
            reset();
        }

        void reset() {
            four = BOTH;
            turn = false;
            slack = 1;
            hold = 2;
            level = 60;
            margin = 1;
            sapFirst = 10;
            sapSecond = 30;
            stock = 2;
            intoSet = 0;
            aheadSet = 0;
        }

        void tellInto(int k, int m) {
            intoSet |= 1 << KINDS * k + m;
        }

        void tellAhead(int k, int m) {
            aheadSet |= 1 << KINDS * k + m;
        }

        boolean goesInto(int k, int m) {
            return (intoSet >> KINDS * k + m & 1) == 1;
        }

        /** Told both ways it is told no way; so no KIND is ahead of itself. */
        boolean isAhead(int k, int m) {
            return (aheadSet >> KINDS * k + m & 1) == 1 && (aheadSet >> KINDS * m + k & 1) == 0;
        }

        int value(int what) {
            switch (what) {
                case 0: return four;
                case 1: return turn ? 1 : 0;
                case 2: return slack;
                case 3: return hold;
                case 4: return level;
                case 5: return margin;
                case 6: return sapFirst;
                case 7: return sapSecond;
                case 8: return stock;
                default: return kindValue(what);
            }
        }

        private int kindValue(int what) {
            if (what >= 10 && what < 10 + KINDS * KINDS) {
                return goesInto((what - 10) / KINDS, (what - 10) % KINDS) ? 1 : 0;
            }
            if (what >= 30 && what < 30 + KINDS * KINDS) {
                return isAhead((what - 30) / KINDS, (what - 30) % KINDS) ? 1 : 0;
            }
            return NONE;
        }
    }

    /** Reads the text of a CUSTOM, token by token, up to its first FAULT. */
    private static final class CustomText {
        static final int MOST_LINES = 40;
        /** No line that stands has more than five, and what comes behind the first one of the 41st is not read. */
        static final int MOST_TOKENS = 5 * MOST_LINES + 1;
        static final int WORD_WIDTH = 6;
        static final int WORD_COUNT = 18;
        static final String WORDS =
            "four  add   less  both  turn  slack into  ahead hold  level marginsap   to    stock post  beam  rafterbrace";

        static final int FOUR = 0;
        static final int ADD = 1;
        static final int BOTH = 3;
        static final int TURN = 4;
        static final int SLACK = 5;
        static final int INTO = 6;
        static final int AHEAD = 7;
        static final int HOLD = 8;
        static final int LEVEL = 9;
        static final int MARGIN = 10;
        static final int SAP = 11;
        static final int TO = 12;
        static final int STOCK = 13;
        static final int POST = 14;

        static final int END = 0;
        static final int WORD = 1;
        static final int NUMBER = 2;
        static final int STOP = 3;
        static final int WRONG = 4;

        static final int FOUL = 1;
        static final int TOO_MUCH = 2;
        static final int TOO_LONG = 3;

        private final int[] tokens = new int[MOST_TOKENS];
        private final int[] values = new int[MOST_TOKENS];
        private final int[] places = new int[MOST_TOKENS];
        private int count = 0;
        private int at = 0;
        private int fault = 0;
        private int place = NONE;

        int faultKind() {
            return fault;
        }

        int faultPlace() {
            return place;
        }

        /** How many lines; NONE with a FAULT. */
        int parse(Tape tape, Custom draft) {
            split(tape);
            at = 0;
            fault = 0;
            place = NONE;
            draft.reset();
            int lines = 0;
            while (token() != END && fault == 0 && lines <= MOST_LINES) {
                readLine(draft, lines);
                lines++;
            }
            return fault == 0 ? lines : NONE;
        }

        private void readLine(Custom draft, int linesAhead) {
            int first = value();
            if (!beginsLine()) {
                fail(FOUL);
                return;
            }
            if (linesAhead >= MOST_LINES) {
                fail(TOO_LONG);
                return;
            }
            at++;
            if (first >= POST) {
                readKinds(draft, first - POST);
            } else {
                readRule(draft, first);
            }
            if (token() != STOP) {
                fail(FOUL);
            }
            at++;
        }

        private boolean beginsLine() {
            int word = value();
            return token() == WORD
                && (word == FOUR || word == TURN || word == SLACK || word >= HOLD && word != TO);
        }

        private void readRule(Custom draft, int first) {
            switch (first) {
                case FOUR:
                    draft.four = readWord(ADD, BOTH);
                    break;
                case TURN:
                    draft.turn = true;
                    break;
                case SLACK:
                    draft.slack = readNumber(0, 3);
                    break;
                case HOLD:
                    draft.hold = readNumber(0, 5);
                    break;
                case LEVEL:
                    draft.level = readNumber(0, 99);
                    break;
                case MARGIN:
                    draft.margin = readNumber(0, 9);
                    break;
                case SAP:
                    draft.sapFirst = readNumber(0, 99);
                    readWord(TO, TO);
                    draft.sapSecond = readNumber(draft.sapFirst, 99);
                    break;
                default:
                    draft.stock = readNumber(0, 99);
            }
        }

        private void readKinds(Custom draft, int first) {
            int verb = readWord(INTO, AHEAD);
            int second = readWord(POST, POST + KINDS - 1) - POST;
            if (fault != 0) {
                return;
            }
            if (verb == INTO) {
                draft.tellInto(first, second);
            } else {
                draft.tellAhead(first, second);
            }
        }

        private int readWord(int least, int most) {
            int word = value();
            if (token() != WORD || word < least || word > most) {
                fail(FOUL);
                return least;
            }
            at++;
            return word;
        }

        private int readNumber(int least, int most) {
            int number = value();
            if (token() != NUMBER) {
                fail(FOUL);
                return least;
            }
            if (number < least || number > most) {
                fail(TOO_MUCH);
                return least;
            }
            at++;
            return number;
        }

        private int token() {
            return at < count ? pick(tokens, at) : END;
        }

        private int value() {
            return pick(values, at);
        }

        /** Only the first one counts: what comes behind it was read on a guess. */
        private void fail(int kind) {
            if (fault == 0) {
                fault = kind;
                place = pick(places, at);
            }
        }

        private void split(Tape tape) {
            count = 0;
            for (int i = 0; i < tape.size(); i++) {
                if (beginsToken(tape, i)) {
                    keepToken(tape, i);
                }
            }
            keep(END, NONE, tape.size());
        }

        private static boolean beginsToken(Tape tape, int i) {
            int b = tape.byteAt(i);
            int ahead = tape.byteAt(i - 1);
            if (isLetter(b)) {
                return !isLetter(ahead);
            }
            return isDigit(b) ? !isDigit(ahead) : !isBlank(b);
        }

        private void keepToken(Tape tape, int start) {
            int b = tape.byteAt(start);
            if (isLetter(b)) {
                int word = wordNumber(tape, start, endOfLetters(tape, start));
                keep(word == NONE ? WRONG : WORD, word, start);
            } else if (isDigit(b)) {
                int next = endOfDigits(tape, start);
                keep(next - start > 2 ? WRONG : NUMBER, numberAt(tape, start, next), start);
            } else {
                keep(b == ';' ? STOP : WRONG, NONE, start);
            }
        }

        private void keep(int token, int value, int start) {
            if (count < MOST_TOKENS) {
                tokens[count] = token;
                values[count] = value;
                places[count] = start;
                count++;
            }
        }

        private static int endOfLetters(Tape tape, int start) {
            int next = start + 1;
            while (next < tape.size() && isLetter(tape.byteAt(next))) {
                next++;
            }
            return next;
        }

        private static int endOfDigits(Tape tape, int start) {
            int next = start + 1;
            while (next < tape.size() && isDigit(tape.byteAt(next))) {
                next++;
            }
            return next;
        }

        /** Of more than two digits it doesn't matter: they are no NUMBER. */
        private static int numberAt(Tape tape, int start, int next) {
            int number = 0;
            for (int i = start; i < next && i < start + 2; i++) {
                number = 10 * number + tape.byteAt(i) - '0';
            }
            return number;
        }

        private static int wordNumber(Tape tape, int start, int next) {
            if (next - start > WORD_WIDTH) {
                return NONE;
            }
            for (int w = 0; w < WORD_COUNT; w++) {
                if (isWord(w, tape, start, next)) {
                    return w;
                }
            }
            return NONE;
        }

        private static boolean isWord(int w, Tape tape, int start, int next) {
            for (int i = 0; i < WORD_WIDTH; i++) {
                int at = w * WORD_WIDTH + i;
                int wanted = at < WORDS.length() ? WORDS.charAt(at) : ' ';
                int got = start + i < next ? tape.byteAt(start + i) : ' ';
                if (wanted != got) {
                    return false;
                }
            }
            return true;
        }

        private static boolean isBlank(int b) {
            return b == ' ' || b == '\n';
        }

        private static boolean isLetter(int b) {
            return b >= 'a' && b <= 'z' || b >= 'A' && b <= 'Z';
        }

        private static boolean isDigit(int b) {
            return b >= '0' && b <= '9';
        }
    }

    /** TIMBERS and their JOINTS. Days never go back, so what a VIEW has of them are always the first ones. */
    private static final class Timbers {
        static final int MOST_JOINTS = 6;

        private int timberCount = 0;
        private final int[] kind = new int[TIMBERS];
        private final int[] length = new int[TIMBERS];
        private final int[] timberDay = new int[TIMBERS];
        private int jointCount = 0;
        private final int[] timber = new int[JOINTS];
        private final int[] place = new int[JOINTS];
        private final int[] sort = new int[JOINTS];
        private final int[] size = new int[JOINTS];
        private final int[] jointDay = new int[JOINTS];

        int addTimber(int newKind, int newLength, int day) {
            if (newKind < 0 || newKind >= KINDS || newLength < 1 || newLength > 99 || timberCount >= TIMBERS) {
                return NONE;
            }
            kind[timberCount] = newKind;
            length[timberCount] = newLength;
            timberDay[timberCount] = day;
            timberCount++;
            return timberCount - 1;
        }

        int addJoint(int t, int newPlace, int newSort, int newSize, int day) {
            if (!hasTimber(t) || jointCount >= JOINTS || jointsOf(t, jointCount) >= MOST_JOINTS) {
                return NONE;
            }
            if (newPlace < 0 || newPlace > length[t] || newSort != TENON && newSort != HOLE
                    || newSize < 1 || newSize > 9) {
                return NONE;
            }
            timber[jointCount] = t;
            place[jointCount] = newPlace;
            sort[jointCount] = newSort;
            size[jointCount] = newSize;
            jointDay[jointCount] = day;
            jointCount++;
            return jointCount - 1;
        }

        boolean hasTimber(int t) {
            return t >= 0 && t < timberCount && t < TIMBERS;
        }

        boolean hasJoint(int j) {
            return j >= 0 && j < jointCount && j < JOINTS;
        }

        int timbersUpTo(int day) {
            int count = 0;
            while (count < timberCount && count < TIMBERS && timberDay[count] <= day) {
                count++;
            }
            return count;
        }

        int jointsUpTo(int day) {
            int count = 0;
            while (count < jointCount && count < JOINTS && jointDay[count] <= day) {
                count++;
            }
            return count;
        }

        /** Of the first so many JOINTS those of TIMBER t. */
        int jointsOf(int t, int among) {
            int count = 0;
            for (int j = 0; j < among && j < JOINTS; j++) {
                if (timber[j] == t) {
                    count++;
                }
            }
            return count;
        }

        int kindOf(int t) {
            return pick(kind, t);
        }

        int lengthOf(int t) {
            return pick(length, t);
        }

        int dayOf(int t) {
            return pick(timberDay, t);
        }

        int timberOf(int j) {
            return pick(timber, j);
        }

        int placeOf(int j) {
            return pick(place, j);
        }

        int sortOf(int j) {
            return pick(sort, j);
        }

        int sizeOf(int j) {
            return pick(size, j);
        }
    }

    /** All MARKS told, which of them is the one of each JOINT in THE VIEW, and what it READS. */
    private static final class Marks {
        static final int MOST_MARKS = 200;
        static final int MOST_SIGNS = 6;
        static final long ALL_NUMBERS = (1L << 40) - 2;
        static final int UNIT_WIDTH = 5;
        static final int UNIT_ROWS = 12;
        /** Rows 0 to 9: the units, 4 and 9 as added; then 4 and 9 as taken away. */
        static final String UNITS = "     I    II   III  IIII V    VI   VII  VIII VIIIIIV   IX   ";

        private int count = 0;
        private final int[] joint = new int[MOST_MARKS];
        private final int[] day = new int[MOST_MARKS];
        private final int[] length = new int[MOST_MARKS];
        private final int[] side = new int[MOST_MARKS];
        private final int[] signs = new int[MOST_MARKS * MOST_SIGNS];
        private final int[] shown = new int[JOINTS];

        Marks() {
            Arrays.fill(shown, NONE);
        }

        /** How many signs; NONE if the TAPE is no MARK or there are too many. */
        int tell(int j, int today, Tape tape) {
            int newSide = tape.size() > 0 && tape.byteAt(tape.size() - 1) == '\'' ? 1 : 0;
            int newLength = tape.size() - newSide;
            if (count >= MOST_MARKS || newLength > MOST_SIGNS) {
                return NONE;
            }
            for (int i = 0; i < newLength; i++) {
                if (!isSign(tape.byteAt(i))) {
                    return NONE;
                }
                signs[count * MOST_SIGNS + i] = tape.byteAt(i);
            }
            joint[count] = j;
            day[count] = today;
            length[count] = newLength;
            side[count] = newSide;
            count++;
            return newLength;
        }

        private static boolean isSign(int b) {
            return b == 'I' || b == 'V' || b == 'X' || b == '?';
        }

        void showUpTo(int lastDay) {
            Arrays.fill(shown, NONE);
            for (int m = 0; m < count && m < MOST_MARKS; m++) {
                int j = joint[m];
                if (day[m] <= lastDay && j >= 0 && j < JOINTS) {
                    shown[j] = m;
                }
            }
        }

        int signsOn(int j) {
            return Math.max(0, pick(length, pick(shown, j)));
        }

        int sideOf(int j) {
            return Math.max(0, pick(side, pick(shown, j)));
        }

        int signAt(int j, int i) {
            return i >= 0 && i < signsOn(j) ? pick(signs, pick(shown, j) * MOST_SIGNS + i) : NONE;
        }

        /** READS of JOINT j as a set. */
        long numbersOn(int j, Custom custom) {
            int mark = pick(shown, j);
            if (signsOn(j) == 0) {
                return ALL_NUMBERS;
            }
            long set = 0;
            for (int tens = 0; tens < 4; tens++) {
                for (int row = 0; row < UNIT_ROWS; row++) {
                    int number = 10 * tens + unitOf(row);
                    if (number > 0 && isUsed(row, custom)
                            && (spells(mark, tens, row, false) || custom.turn && spells(mark, tens, row, true))) {
                        set |= 1L << number;
                    }
                }
            }
            return set;
        }

        private static int unitOf(int row) {
            if (row < 10) {
                return row;
            }
            return row == 10 ? 4 : 9;
        }

        private static boolean isUsed(int row, Custom custom) {
            if (row >= 10) {
                return custom.four != Custom.ADD;
            }
            return row != 4 && row != 9 || custom.four != Custom.LESS;
        }

        private boolean spells(int mark, int tens, int row, boolean fromBehind) {
            int n = pick(length, mark);
            if (n < tens || unitSign(row, n - tens) != ' ') {
                return false;
            }
            for (int i = 0; i < n; i++) {
                int wanted = i < tens ? 'X' : unitSign(row, i - tens);
                int sign = pick(signs, mark * MOST_SIGNS + (fromBehind ? n - 1 - i : i));
                if (wanted == ' ' || sign != wanted && sign != '?') {
                    return false;
                }
            }
            return true;
        }

        /** A blank behind the last sign. */
        private static int unitSign(int row, int i) {
            int at = row * UNIT_WIDTH + i;
            return i >= 0 && i < UNIT_WIDTH && at >= 0 && at < UNITS.length() ? UNITS.charAt(at) : ' ';
        }
    }

    /**
     * The BEST JOIN of the arcs (a TENON and a HOLE that it FITS) put into it. It is found as a cheapest flow from a
     * source by TENONS and HOLES to a sink; every other join as good differs from it by rounds of no cost.
     */
    private static final class Join {
        static final int MOST_ARCS = JOINTS * JOINTS / 4;
        static final int SOURCE = JOINTS;
        static final int SINK = JOINTS + 1;
        static final int NODES = JOINTS + 2;
        static final int FAR = 1000000;

        private final long[] numbers = new long[JOINTS];
        private final int[] arcTenon = new int[MOST_ARCS];
        private final int[] arcHole = new int[MOST_ARCS];
        private final int[] arcMore = new int[MOST_ARCS];
        private int arcs = 0;
        private long tenons = 0;
        private long holes = 0;
        private long closed = 0;
        private long forcedSet = 0;
        private final int[] partner = new int[JOINTS];
        private final int[] distance = new int[NODES];
        private final int[] next = new int[NODES];
        private int pairs = 0;
        private int more = 0;

        Join() {
            Arrays.fill(partner, NONE);
        }

        void begin() {
            Arrays.fill(partner, NONE);
            arcs = 0;
            tenons = 0;
            holes = 0;
            closed = 0;
            forcedSet = 0;
            pairs = 0;
            more = 0;
        }

        void keepNumbers(int j, long set) {
            if (j >= 0 && j < JOINTS) {
                numbers[j] = set;
            }
        }

        boolean shareNumber(int t, int h) {
            return t >= 0 && t < JOINTS && h >= 0 && h < JOINTS && (numbers[t] & numbers[h]) != 0;
        }

        /** To be called by TENONS, for each by HOLES, the lesser first. */
        void addArc(int t, int h, int moreOfHole) {
            if (arcs >= MOST_ARCS || t < 0 || t >= JOINTS || h < 0 || h >= JOINTS) {
                return;
            }
            arcTenon[arcs] = t;
            arcHole[arcs] = h;
            arcMore[arcs] = moreOfHole;
            arcs++;
            tenons |= 1L << t;
            holes |= 1L << h;
        }

        /** The most pairs with the least sum, one pair more each time. */
        void fill() {
            for (int i = 0; i < JOINTS; i++) {
                measureTo(SINK);
                if (distance[SOURCE] == FAR) {
                    return;
                }
                turnOver(SOURCE, SINK);
            }
        }

        /**
         * Each TENON in its turn takes the least HOLE it can, and is closed then: no way leads by it, so none leads
         * on from its HOLE, and the pair stays.
         */
        void chooseHoles() {
            for (int t = 0; t < JOINTS; t++) {
                if (has(tenons, t)) {
                    measureTo(t);
                    chooseFirstHole(t);
                }
            }
            closed = 0;
        }

        /** A pair is in all joins as good, unless a round of no cost does without it. */
        void findForced() {
            for (int i = 0; i < arcs && i < MOST_ARCS; i++) {
                int t = arcTenon[i];
                int h = arcHole[i];
                if (partnerOf(t) == h) {
                    pairs++;
                    more += arcMore[i];
                    measureTo(h);
                    if (pick(distance, t) != arcMore[i]) {
                        forcedSet |= 1L << t | 1L << h;
                    }
                }
            }
        }

        int pairCount() {
            return pairs;
        }

        int moreInAll() {
            return more;
        }

        int forcedCount() {
            return Long.bitCount(forcedSet & tenons);
        }

        int partnerOf(int j) {
            return pick(partner, j);
        }

        boolean isForced(int j) {
            return has(forcedSet, j);
        }

        private void chooseFirstHole(int t) {
            for (int i = 0; i < arcs && i < MOST_ARCS; i++) {
                int h = arcHole[i];
                if (arcTenon[i] != t) {
                    continue;
                }
                if (partnerOf(t) == h) {
                    break;
                }
                if (pick(distance, h) == -arcMore[i]) {
                    turnOver(h, t);
                    tie(t, h);
                    break;
                }
            }
            closed |= 1L << t;
        }

        /** The least cost of a way from each node to the target. */
        private void measureTo(int target) {
            Arrays.fill(distance, FAR);
            Arrays.fill(next, NONE);
            if (target >= 0 && target < NODES) {
                distance[target] = 0;
            }
            boolean moved = true;
            for (int round = 0; round < NODES && moved; round++) {
                moved = relaxArcs();
                moved = relaxEnds() || moved;
            }
        }

        private boolean relaxArcs() {
            boolean moved = false;
            for (int i = 0; i < arcs && i < MOST_ARCS; i++) {
                int t = arcTenon[i];
                int h = arcHole[i];
                if (has(closed, t)) {
                    continue;
                }
                if (pick(partner, t) == h) {
                    moved = relax(h, t, -arcMore[i]) || moved;
                } else {
                    moved = relax(t, h, arcMore[i]) || moved;
                }
            }
            return moved;
        }

        private boolean relaxEnds() {
            boolean moved = false;
            for (int j = 0; j < JOINTS; j++) {
                if (has(closed, j)) {
                    continue;
                }
                boolean free = partner[j] == NONE;
                if (has(tenons, j)) {
                    moved = (free ? relax(SOURCE, j, 0) : relax(j, SOURCE, 0)) || moved;
                } else if (has(holes, j)) {
                    moved = (free ? relax(j, SINK, 0) : relax(SINK, j, 0)) || moved;
                }
            }
            return moved;
        }

        private boolean relax(int from, int to, int cost) {
            if (from < 0 || from >= NODES || to < 0 || to >= NODES) {
                return false;
            }
            if (distance[to] == FAR || distance[to] + cost >= distance[from]) {
                return false;
            }
            distance[from] = distance[to] + cost;
            next[from] = to;
            return true;
        }

        /** Old pairs on the way go first, since their joints may be in new ones. */
        private void turnOver(int from, int target) {
            int u = from;
            for (int i = 0; i < NODES && u != target; i++) {
                int v = pick(next, u);
                if (has(holes, u) && has(tenons, v)) {
                    partner[u] = NONE;
                    partner[v] = NONE;
                }
                u = v;
            }
            u = from;
            for (int i = 0; i < NODES && u != target; i++) {
                int v = pick(next, u);
                if (has(tenons, u) && has(holes, v)) {
                    tie(u, v);
                }
                u = v;
            }
        }

        private void tie(int t, int h) {
            if (t >= 0 && t < JOINTS && h >= 0 && h < JOINTS) {
                partner[t] = h;
                partner[h] = t;
            }
        }

        private static boolean has(long set, int j) {
            return j >= 0 && j < JOINTS && (set >> j & 1) == 1;
        }
    }

    /** The FRAMES of one BEST JOIN, and what was found of their RAISINGS. */
    private static final class Frames {
        static final int MOST_FRAMES = TIMBERS / 2;

        private int count = 0;
        private final int[] mates = new int[TIMBERS];
        private final int[] frame = new int[TIMBERS];
        private final int[] members = new int[MOST_FRAMES];
        private final int[] pairs = new int[MOST_FRAMES];
        private int raisedSet = 0;
        private final int[] most = new int[MOST_FRAMES];
        private final long[] orderCounts = new long[MOST_FRAMES];
        private final int[] steps = new int[MOST_FRAMES * TIMBERS];

        Frames() {
            Arrays.fill(frame, NONE);
        }

        void gather(Join join, Timbers timbers) {
            count = 0;
            raisedSet = 0;
            Arrays.fill(mates, 0);
            Arrays.fill(frame, NONE);
            Arrays.fill(pairs, 0);
            for (int j = 0; j < JOINTS; j++) {
                int a = timbers.timberOf(j);
                int b = timbers.timberOf(join.partnerOf(j));
                if (isMember(a) && isMember(b)) {
                    mates[a] |= 1 << b;
                }
            }
            for (int t = 0; t < TIMBERS; t++) {
                if (mates[t] != 0 && frame[t] == NONE) {
                    addFrame(t);
                }
            }
            countPairs(join, timbers);
        }

        private void addFrame(int least) {
            if (count >= MOST_FRAMES) {
                return;
            }
            int set = 1 << least;
            for (int round = 0; round < TIMBERS; round++) {
                for (int t = 0; t < TIMBERS; t++) {
                    if ((set >> t & 1) == 1) {
                        set |= mates[t];
                    }
                }
            }
            for (int t = 0; t < TIMBERS; t++) {
                if ((set >> t & 1) == 1) {
                    frame[t] = count;
                }
            }
            members[count] = set;
            count++;
        }

        private void countPairs(Join join, Timbers timbers) {
            for (int j = 0; j < JOINTS; j++) {
                int f = holding(timbers.timberOf(j));
                if (join.partnerOf(j) != NONE && timbers.sortOf(j) == TENON && f >= 0 && f < MOST_FRAMES) {
                    pairs[f]++;
                }
            }
        }

        private static boolean isMember(int t) {
            return t >= 0 && t < TIMBERS;
        }

        int size() {
            return count;
        }

        int holding(int t) {
            return pick(frame, t);
        }

        int membersOf(int f) {
            return pick(members, f);
        }

        int matesOf(int t) {
            return isMember(t) ? mates[t] : 0;
        }

        int pairsOf(int f) {
            return pick(pairs, f);
        }

        boolean isRaised(int f) {
            return f >= 0 && f < MOST_FRAMES && (raisedSet >> f & 1) == 1;
        }

        void keepRaising(int f, int leastMost, long orderCount) {
            if (f >= 0 && f < MOST_FRAMES) {
                raisedSet |= 1 << f;
                most[f] = leastMost;
                orderCounts[f] = orderCount;
                for (int i = 0; i < TIMBERS; i++) {
                    steps[f * TIMBERS + i] = NONE;
                }
            }
        }

        void keepStep(int f, int i, int t) {
            if (f >= 0 && f < MOST_FRAMES && isMember(i)) {
                steps[f * TIMBERS + i] = t;
            }
        }

        int mostOf(int f) {
            return pick(most, f);
        }

        long ordersOf(int f) {
            return f >= 0 && f < MOST_FRAMES ? orderCounts[f] : NONE;
        }

        int stepOf(int f, int i) {
            return isMember(i) ? pick(steps, f * TIMBERS + i) : NONE;
        }
    }

    /** Counts the orders of a FRAME and finds its BEST RAISING, set by set of the TIMBERS that stand. */
    private static final class Raising {
        private int size = 0;
        private final int[] timber = new int[TIMBERS];
        private final int[] mates = new int[TIMBERS];
        private final int[] before = new int[TIMBERS];
        /** A TIMBER can come to a set that has of these only those BEFORE it: all of them, not itself. */
        private final int[] gate = new int[TIMBERS];
        private final int[] need = new int[TIMBERS];
        /** In how many orders a set can come to stand. */
        private long[] ways = new long[1];
        /** The least MOST from the step on which a set came to stand. */
        private byte[] worst = new byte[1];

        void raise(Frames frames, int f, Timbers timbers, Custom custom) {
            take(frames, f);
            link(frames, timbers, custom);
            makeRoom();
            countWays();
            int full = (1 << size) - 1;
            if (ways[full] == 0) {
                frames.keepRaising(f, NONE, 0);
                return;
            }
            long orderCount = ways[full];
            measureWorst();
            frames.keepRaising(f, worst[0], orderCount);
            keepSteps(frames, f);
        }

        private void take(Frames frames, int f) {
            size = 0;
            for (int t = 0; t < TIMBERS && size < TIMBERS; t++) {
                if (frames.holding(t) == f) {
                    timber[size] = t;
                    size++;
                }
            }
        }

        private void link(Frames frames, Timbers timbers, Custom custom) {
            for (int i = 0; i < size; i++) {
                mates[i] = 0;
                before[i] = 0;
                for (int k = 0; k < size; k++) {
                    if ((frames.matesOf(timber[i]) >> timber[k] & 1) == 1) {
                        mates[i] |= 1 << k;
                        if (custom.isAhead(timbers.kindOf(timber[k]), timbers.kindOf(timber[i]))) {
                            before[i] |= 1 << k;
                        }
                    }
                }
                gate[i] = before[i] | 1 << i;
                need[i] = Math.min(custom.hold, Integer.bitCount(mates[i]));
            }
        }

        /** Rows for 16 TIMBERS are large, so they grow only when a FRAME asks for them. */
        private void makeRoom() {
            if (ways.length < 1 << size) {
                ways = new long[1 << size];
                worst = new byte[1 << size];
            }
        }

        private void countWays() {
            int sets = 1 << size;
            for (int set = 0; set < sets; set++) {
                ways[set] = 0;
            }
            ways[0] = 1;
            for (int set = 0; set < sets; set++) {
                if (ways[set] == 0) {
                    continue;
                }
                for (int i = 0; i < size; i++) {
                    if ((set & gate[i]) == before[i]) {
                        ways[set | 1 << i] += ways[set];
                    }
                }
            }
        }

        private void measureWorst() {
            int full = (1 << size) - 1;
            worst[full] = 0;
            for (int set = full - 1; set >= 0; set--) {
                if (ways[set] == 0) {
                    continue;
                }
                int least = TIMBERS;
                for (int i = 0; i < size; i++) {
                    if ((set & gate[i]) == before[i] && worst[set | 1 << i] < least) {
                        least = worst[set | 1 << i];
                    }
                }
                worst[set] = (byte) Math.max(least, props(set));
            }
        }

        private int props(int set) {
            int count = 0;
            for (int i = 0; i < size; i++) {
                if ((set >> i & 1) == 1 && Integer.bitCount(mates[i] & set) < need[i]) {
                    count++;
                }
            }
            return count;
        }

        private void keepSteps(Frames frames, int f) {
            int set = 0;
            for (int step = 0; step < size; step++) {
                for (int i = 0; i < size; i++) {
                    if ((set & gate[i]) == before[i] && worst[set | 1 << i] <= worst[0]) {
                        frames.keepStep(f, step, timber[i]);
                        set |= 1 << i;
                        break;
                    }
                }
            }
        }
    }

    /** THE MASTER, the SAMPLES, and the DATE looked for last. */
    private static final class Rings {
        static final int YEARS = 200;
        static final int MOST_RINGS = 24;

        private final int[] masterWidth = new int[YEARS];
        private final int[] count = new int[TIMBERS];
        private final int[] width = new int[TIMBERS * MOST_RINGS];
        private final int[] day = new int[TIMBERS * MOST_RINGS];
        private final int[] sapRings = new int[TIMBERS];
        private final boolean[] hasBark = new boolean[TIMBERS];
        private int last;
        private int agree;
        private boolean sure;
        private int felledFrom;
        private int felledTo;
        private int usedTo;

        Rings() {
            Arrays.fill(masterWidth, NONE);
        }

        boolean tellMaster(int year, int newWidth) {
            if (year < 0 || year >= YEARS || newWidth < NONE || newWidth > 99) {
                return false;
            }
            masterWidth[year] = newWidth;
            return true;
        }

        int addRing(int t, int newWidth, int today) {
            if (t < 0 || t >= TIMBERS || newWidth < 0 || newWidth > 99 || count[t] >= MOST_RINGS) {
                return NONE;
            }
            width[t * MOST_RINGS + count[t]] = newWidth;
            day[t * MOST_RINGS + count[t]] = today;
            count[t]++;
            return count[t];
        }

        boolean tellSap(int t, int n, boolean bark) {
            if (t < 0 || t >= TIMBERS || n < 0 || n > MOST_RINGS) {
                return false;
            }
            sapRings[t] = n;
            hasBark[t] = bark;
            return true;
        }

        int ringsSeen(int t, int lastDay) {
            if (t < 0 || t >= TIMBERS) {
                return 0;
            }
            int seen = 0;
            while (seen < count[t] && seen < MOST_RINGS && day[t * MOST_RINGS + seen] <= lastDay) {
                seen++;
            }
            return seen;
        }

        int sapTold(int t) {
            return pick(sapRings, t);
        }

        boolean barkTold(int t) {
            return t >= 0 && t < TIMBERS && hasBark[t];
        }

        void dateBy(Custom custom, int t, int lastDay) {
            int n = ringsSeen(t, lastDay);
            last = NONE;
            agree = NONE;
            sure = false;
            if (n < 2) {
                return;
            }
            int rival = NONE;
            for (int e = n - 1; e < YEARS; e++) {
                int here = agreeAt(t, n, e);
                if (here > agree) {
                    rival = agree;
                    agree = here;
                    last = e;
                } else if (here > rival) {
                    rival = here;
                }
            }
            sure = last != NONE && 100 * agree >= custom.level * (n - 1)
                && (rival == NONE || rival <= agree - custom.margin);
            if (sure) {
                fell(custom, Math.min(sapTold(t), n), barkTold(t));
            }
        }

        /** NONE if the SAMPLE does not LIE there. */
        private int agreeAt(int t, int n, int e) {
            int steps = 0;
            for (int i = 0; i < n; i++) {
                int year = e - n + 1 + i;
                if (pick(masterWidth, year) == NONE) {
                    return NONE;
                }
                if (i > 0 && way(pick(masterWidth, year - 1), pick(masterWidth, year)) == wayTo(t, i)) {
                    steps++;
                }
            }
            return steps;
        }

        private int wayTo(int t, int i) {
            return way(pick(width, t * MOST_RINGS + i - 1), pick(width, t * MOST_RINGS + i));
        }

        private static int way(int from, int to) {
            if (from == to) {
                return 0;
            }
            return from < to ? 1 : -1;
        }

        private void fell(Custom custom, int sapwood, boolean bark) {
            if (bark) {
                felledFrom = last;
                felledTo = last;
            } else {
                felledFrom = Math.max(last, last + custom.sapFirst - sapwood);
                felledTo = sapwood > 0 ? Math.max(felledFrom, last + custom.sapSecond - sapwood) : LAST_YEAR;
            }
            usedTo = Math.min(LAST_YEAR, felledTo + custom.stock);
        }

        boolean isSure() {
            return sure;
        }

        int dated(int what) {
            if (last == NONE) {
                return NONE;
            }
            switch (what) {
                case 0: return last;
                case 1: return agree;
                case 2: return sure ? 1 : 0;
                default: return sure ? felledOrUsed(what) : NONE;
            }
        }

        private int felledOrUsed(int what) {
            switch (what) {
                case 3: return felledFrom;
                case 4: return felledTo;
                case 5: return felledFrom;
                case 6: return usedTo;
                default: return NONE;
            }
        }
    }

    /** The YEARS in which the most USED spans agree. */
    private static final class Built {
        private int spans = 0;
        private final int[] from = new int[TIMBERS];
        private final int[] to = new int[TIMBERS];
        private int firstYear = NONE;
        private int lastYear = NONE;
        private int most = 0;

        void begin() {
            spans = 0;
        }

        void addSpan(int first, int last) {
            if (spans < TIMBERS) {
                from[spans] = first;
                to[spans] = last;
                spans++;
            }
        }

        void settle() {
            most = 0;
            firstYear = NONE;
            lastYear = NONE;
            for (int year = 0; year <= LAST_YEAR; year++) {
                int here = spansIn(year);
                if (here > most) {
                    most = here;
                    firstYear = year;
                    lastYear = year;
                } else if (here == most && most > 0 && lastYear == year - 1) {
                    lastYear = year;
                }
            }
        }

        private int spansIn(int year) {
            int count = 0;
            for (int i = 0; i < spans && i < TIMBERS; i++) {
                if (from[i] <= year && year <= to[i]) {
                    count++;
                }
            }
            return count;
        }

        int found(int what) {
            switch (what) {
                case 0: return firstYear;
                case 1: return lastYear;
                case 2: return spans - most;
                case 3: return spans;
                default: return NONE;
            }
        }
    }

    /** All LEANS told, and those of the TIMBER measured last. */
    private static final class Leans {
        static final int MOST_LEANS = 60;

        private int count = 0;
        private final int[] timber = new int[MOST_LEANS];
        private final int[] year = new int[MOST_LEANS];
        private final int[] far = new int[MOST_LEANS];
        private final int[] day = new int[MOST_LEANS];
        private int years;
        private int first;
        private int last;
        private int above;
        private int below;

        boolean tell(int t, int newYear, int newFar, int today) {
            if (newYear < 0 || newYear > LAST_YEAR || newFar < -99 || newFar > 99 || count >= MOST_LEANS) {
                return false;
            }
            timber[count] = t;
            year[count] = newYear;
            far[count] = newFar;
            day[count] = today;
            count++;
            return true;
        }

        void measure(int t, int lastDay) {
            years = 0;
            first = NONE;
            last = NONE;
            for (int i = 0; i < count && i < MOST_LEANS; i++) {
                if (timber[i] != t || day[i] > lastDay || isToldAnew(i, lastDay)) {
                    continue;
                }
                years++;
                if (first == NONE || year[i] < year[first]) {
                    first = i;
                }
                if (last == NONE || year[i] > year[last]) {
                    last = i;
                }
            }
            if (years >= 2) {
                findRate();
            }
        }

        private boolean isToldAnew(int i, int lastDay) {
            for (int k = i + 1; k < count && k < MOST_LEANS; k++) {
                if (timber[k] == timber[i] && year[k] == year[i] && day[k] <= lastDay) {
                    return true;
                }
            }
            return false;
        }

        private void findRate() {
            above = pick(far, last) - pick(far, first);
            below = pick(year, last) - pick(year, first);
            int a = Math.abs(above);
            int b = below;
            for (int round = 0; round < 64 && a != 0; round++) {
                int rest = b % a;
                b = a;
                a = rest;
            }
            if (b > 0) {
                above /= b;
                below /= b;
            }
        }

        int measured(int what) {
            if (what == 0) {
                return years;
            }
            if (last < 0 || last >= MOST_LEANS || years < 2 && what > 2) {
                return NO_LEAN;
            }
            switch (what) {
                case 1: return year[last];
                case 2: return far[last];
                case 3: return above;
                case 4: return below;
                default: return NO_LEAN;
            }
        }

        int fallYear(int bound) {
            if (years < 2 || last < 0 || last >= MOST_LEANS) {
                return NONE;
            }
            if (Math.abs(far[last]) > bound) {
                return year[last];
            }
            if (above == 0) {
                return NONE;
            }
            int room = above > 0 ? bound - far[last] : bound + far[last];
            int falling = year[last] + room * below / Math.abs(above) + 1;
            return falling <= LAST_FALL ? falling : NONE;
        }
    }
}
