import java.util.ArrayList;
import java.util.Arrays;
import java.util.List;
import java.util.TreeMap;

/**
 * The document told again in the most roundabout way: rows of all that was told, and answers by going through all
 * joins and all orders. It is slow, so the frames given to it are small.
 */
final class Model {
    static final int NONE = -1;

    /** What a text of lines says, told by name. */
    static final class Rule {
        int four = 3;
        boolean turn;
        int slack = 1;
        int hold = 2;
        int level = 60;
        int margin = 1;
        int sapFirst = 10;
        int sapSecond = 30;
        int stock = 2;
        final boolean[][] into = new boolean[4][4];
        final boolean[][] ahead = new boolean[4][4];

        boolean isAhead(int k, int m) {
            return ahead[k][m] && !ahead[m][k];
        }
    }

    record Timber(int kind, int length, int day) { }
    record Joint(int timber, int place, int sort, int size, int day) { }
    record Mark(int joint, String signs, int day) { }
    record Ring(int width, int day) { }
    record Lean(int timber, int year, int far, int day) { }

    final Rule[] rules = {new Rule(), new Rule()};
    final List<Timber> timbers = new ArrayList<>();
    final List<Joint> joints = new ArrayList<>();
    final List<Mark> marks = new ArrayList<>();
    final List<List<Ring>> rings = new ArrayList<>();
    final int[] sap = new int[16];
    final boolean[] bark = new boolean[16];
    final int[] master = new int[200];
    final List<Lean> leans = new ArrayList<>();
    int now;
    int view = NONE;

    Model() {
        Arrays.fill(master, NONE);
    }

    boolean seen(int day) {
        return view == NONE || day <= view;
    }

    boolean hasTimber(int t) {
        return t >= 0 && t < timbers.size() && seen(timbers.get(t).day);
    }

    boolean hasJoint(int j) {
        return j >= 0 && j < joints.size() && seen(joints.get(j).day);
    }

    String markOf(int j) {
        String last = "";
        for (Mark mark : marks) {
            if (mark.joint == j && seen(mark.day)) {
                last = mark.signs;
            }
        }
        return last;
    }

    String signsOf(int j) {
        return markOf(j).replace("'", "");
    }

    int sideOf(int j) {
        return markOf(j).endsWith("'") ? 1 : 0;
    }

    static List<String> writings(int n, int four) {
        String tens = "X".repeat(n / 10);
        int unit = n % 10;
        List<String> all = new ArrayList<>();
        if (unit == 4 || unit == 9) {
            if (four == 1 || four == 3) {
                all.add(tens + (unit == 4 ? "IIII" : "VIIII"));
            }
            if (four == 2 || four == 3) {
                all.add(tens + (unit == 4 ? "IV" : "IX"));
            }
        } else {
            all.add(tens + (unit >= 5 ? "V" : "") + "I".repeat(unit % 5));
        }
        return all;
    }

    long reads(int c, int j) {
        String signs = signsOf(j);
        long set = 0;
        for (int n = 1; n <= 39; n++) {
            boolean read = signs.isEmpty();
            for (String writing : writings(n, rules[c].four)) {
                read |= same(signs, writing);
                read |= rules[c].turn && same(new StringBuilder(signs).reverse().toString(), writing);
            }
            set |= read ? 1L << n : 0;
        }
        return set;
    }

    private static boolean same(String signs, String writing) {
        return writing.matches(signs.replace("?", "[IVX]"));
    }

    boolean fits(int c, int t, int h) {
        Joint tenon = joints.get(t);
        Joint hole = joints.get(h);
        int more = hole.size - tenon.size;
        return tenon.sort == 0 && hole.sort == 1 && tenon.timber != hole.timber
            && rules[c].into[timbers.get(tenon.timber).kind][timbers.get(hole.timber).kind]
            && more >= 0 && more <= rules[c].slack
            && (reads(c, t) & reads(c, h)) != 0
            && (signsOf(t).isEmpty() || signsOf(h).isEmpty() || sideOf(t) == sideOf(h));
    }

    /** A join as it is found by trying all: for each TENON its HOLE. */
    static final class Found {
        int pairs = -1;
        int more;
        int[] best;
        boolean[] inAll;
        int[] tenons;
        int[] holes;
        boolean[][] fit;
        int[][] extra;

        void go(int i, int[] taken, boolean[] used, int count, int sum) {
            if (i == tenons.length) {
                meet(taken, count, sum);
                return;
            }
            for (int h = 0; h < holes.length; h++) {
                if (fit[i][h] && !used[h]) {
                    used[h] = true;
                    taken[i] = h;
                    go(i + 1, taken, used, count + 1, sum + extra[i][h]);
                    used[h] = false;
                }
            }
            taken[i] = -1;
            go(i + 1, taken, used, count, sum);
        }

        /** They come in the order wanted, so the first one met of the best is BEST. */
        private void meet(int[] taken, int count, int sum) {
            if (count > pairs || count == pairs && sum < more) {
                pairs = count;
                more = sum;
                best = taken.clone();
                inAll = new boolean[taken.length];
                Arrays.fill(inAll, true);
            } else if (count == pairs && sum == more) {
                for (int i = 0; i < taken.length; i++) {
                    inAll[i] &= taken[i] == best[i];
                }
            }
        }
    }

    /** Partners of all JOINTS by CUSTOM 0 and 1; behind them, whether each pair is FORCED. */
    int[][] partners() {
        int[][] all = new int[4][48];
        for (int[] row : all) {
            Arrays.fill(row, NONE);
        }
        for (int c = 0; c < 2; c++) {
            joinBy(c, all);
        }
        return all;
    }

    private void joinBy(int c, int[][] all) {
        int[] idle = new int[0];
        for (int j = 0; hasJoint(j); j++) {
            if (c == 0 || all[0][j] == NONE) {
                idle = Arrays.copyOf(idle, idle.length + 1);
                idle[idle.length - 1] = j;
            }
        }
        Found found = new Found();
        found.tenons = Arrays.stream(idle).filter(j -> joints.get(j).sort == 0).toArray();
        found.holes = Arrays.stream(idle).filter(j -> joints.get(j).sort == 1).toArray();
        found.fit = new boolean[found.tenons.length][found.holes.length];
        found.extra = new int[found.tenons.length][found.holes.length];
        for (int i = 0; i < found.tenons.length; i++) {
            for (int h = 0; h < found.holes.length; h++) {
                found.fit[i][h] = fits(c, found.tenons[i], found.holes[h]);
                found.extra[i][h] = joints.get(found.holes[h]).size - joints.get(found.tenons[i]).size;
            }
        }
        found.go(0, new int[found.tenons.length], new boolean[found.holes.length], 0, 0);
        for (int i = 0; i < found.tenons.length; i++) {
            if (found.best[i] != -1) {
                int t = found.tenons[i];
                int h = found.holes[found.best[i]];
                all[c][t] = h;
                all[c][h] = t;
                all[c + 2][t] = found.inAll[i] ? 1 : 0;
                all[c + 2][h] = all[c + 2][t];
            }
        }
    }

    boolean[][] mates(int[] partner) {
        boolean[][] mates = new boolean[16][16];
        for (int j = 0; j < 48; j++) {
            if (partner[j] != NONE) {
                mates[joints.get(j).timber][joints.get(partner[j]).timber] = true;
            }
        }
        return mates;
    }

    /** Sets of TIMBERS, by their least ones. */
    static List<Integer> frames(boolean[][] mates) {
        boolean[][] linked = new boolean[16][16];
        for (int i = 0; i < 16; i++) {
            linked[i] = mates[i].clone();
        }
        for (int k = 0; k < 16; k++) {
            for (int i = 0; i < 16; i++) {
                for (int j = 0; j < 16; j++) {
                    linked[i][j] |= linked[i][k] && linked[k][j];
                }
            }
        }
        List<Integer> frames = new ArrayList<>();
        for (int i = 0; i < 16; i++) {
            int set = 0;
            for (int j = 0; j < 16; j++) {
                set |= linked[i][j] ? 1 << j : 0;
            }
            if (set != 0 && !frames.contains(set)) {
                frames.add(set);
            }
        }
        return frames;
    }

    /** All orders of a FRAME, one after another. */
    final class Orders {
        final boolean[][] mates;
        final Rule rule;
        final List<Integer> members = new ArrayList<>();
        long count;
        int most = NONE;
        List<Integer> best = List.of();

        Orders(boolean[][] mates, Rule rule, int set) {
            this.mates = mates;
            this.rule = rule;
            for (int t = 0; t < 16; t++) {
                if ((set >> t & 1) == 1) {
                    members.add(t);
                }
            }
            go(new ArrayList<>(), 0);
        }

        private void go(List<Integer> standing, int worst) {
            if (standing.size() == members.size()) {
                count++;
                if (most == NONE || worst < most) {
                    most = worst;
                    best = new ArrayList<>(standing);
                }
                return;
            }
            for (int t : members) {
                if (!standing.contains(t) && mayCome(t, standing)) {
                    standing.add(t);
                    go(standing, Math.max(worst, props(standing)));
                    standing.remove(standing.size() - 1);
                }
            }
        }

        private boolean mayCome(int t, List<Integer> standing) {
            for (int m : members) {
                if (mates[t][m] && !standing.contains(m)
                        && rule.isAhead(timbers.get(m).kind, timbers.get(t).kind)) {
                    return false;
                }
            }
            return true;
        }

        private int props(List<Integer> standing) {
            int count = 0;
            for (int t : standing) {
                int there = 0;
                int all = 0;
                for (int m : members) {
                    all += mates[t][m] ? 1 : 0;
                    there += mates[t][m] && standing.contains(m) ? 1 : 0;
                }
                count += there < rule.hold && there != all ? 1 : 0;
            }
            return count;
        }
    }

    /** e, AGREE, SURE, FELLED from and to, USED from and to; NONE for what there is not. */
    int[] date(int c, int t) {
        int[] found = {NONE, NONE, NONE, NONE, NONE, NONE, NONE};
        List<Integer> widths = new ArrayList<>();
        for (Ring ring : rings.get(t)) {
            if (seen(ring.day)) {
                widths.add(ring.width);
            }
        }
        int n = widths.size();
        TreeMap<Integer, Integer> agrees = new TreeMap<>();
        for (int e = n - 1; e < 200 && n >= 2; e++) {
            boolean lies = true;
            int agree = 0;
            for (int i = 0; i < n; i++) {
                lies &= master[e - n + 1 + i] != NONE;
                if (i > 0) {
                    int there = Integer.signum(master[e - n + 1 + i] - master[e - n + i]);
                    agree += there == Integer.signum(widths.get(i) - widths.get(i - 1)) ? 1 : 0;
                }
            }
            if (lies) {
                agrees.put(e, agree);
            }
        }
        for (int e : agrees.keySet()) {
            if (agrees.get(e) > found[1]) {
                found[0] = e;
                found[1] = agrees.get(e);
            }
        }
        if (found[0] == NONE) {
            return found;
        }
        Rule rule = rules[c];
        boolean sure = 100 * found[1] >= rule.level * (n - 1);
        for (int e : agrees.keySet()) {
            sure &= e == found[0] || agrees.get(e) <= found[1] - rule.margin;
        }
        found[2] = sure ? 1 : 0;
        if (sure) {
            int sapwood = Math.min(n, sap[t]);
            found[3] = bark[t] ? found[0] : found[0] + Math.max(0, rule.sapFirst - sapwood);
            found[4] = sapwood == 0 ? 999 : Math.max(found[3], found[0] + rule.sapSecond - sapwood);
            found[4] = bark[t] ? found[0] : found[4];
            found[5] = found[3];
            found[6] = Math.min(999, found[4] + rule.stock);
        }
        return found;
    }

    /** From, to, QUARREL, how many SURE. */
    int[] built(int c, int set) {
        int[] inYear = new int[1001];
        int sure = 0;
        for (int t = 0; t < 16; t++) {
            if ((set >> t & 1) == 1) {
                int[] date = date(c, t);
                sure += date[2] == 1 ? 1 : 0;
                for (int y = date[5]; date[2] == 1 && y <= date[6]; y++) {
                    inYear[y]++;
                }
            }
        }
        int most = Arrays.stream(inYear).max().getAsInt();
        if (sure == 0) {
            return new int[] {NONE, NONE, 0, 0};
        }
        int from = 0;
        while (inYear[from] != most) {
            from++;
        }
        int to = from;
        while (to < 999 && inYear[to + 1] == most) {
            to++;
        }
        return new int[] {from, to, sure - most, sure};
    }

    TreeMap<Integer, Integer> leansOf(int t) {
        TreeMap<Integer, Integer> found = new TreeMap<>();
        for (Lean lean : leans) {
            if (lean.timber == t && seen(lean.day)) {
                found.put(lean.year, lean.far);
            }
        }
        return found;
    }

    int lean(int t, int what) {
        TreeMap<Integer, Integer> found = leansOf(t);
        if (what == 0) {
            return found.size();
        }
        if (found.isEmpty() || what > 2 && found.size() < 2) {
            return -1000;
        }
        if (what < 3) {
            return what == 1 ? found.lastKey() : found.lastEntry().getValue();
        }
        int above = found.lastEntry().getValue() - found.firstEntry().getValue();
        int below = found.lastKey() - found.firstKey();
        for (int d = below; d > 1; d--) {
            if (above % d == 0 && below % d == 0) {
                above /= d;
                below /= d;
            }
        }
        return what == 3 ? above : below;
    }

    int falls(int t, int bound) {
        TreeMap<Integer, Integer> found = leansOf(t);
        if (found.size() < 2) {
            return NONE;
        }
        long above = found.lastEntry().getValue() - found.firstEntry().getValue();
        long below = found.lastKey() - found.firstKey();
        for (int y = found.lastKey(); y <= 9999; y++) {
            long far = found.lastEntry().getValue() * below + above * (y - found.lastKey());
            if (Math.abs(far) > bound * below) {
                return y;
            }
        }
        return NONE;
    }
}
