import java.util.ArrayList;
import java.util.Arrays;
import java.util.List;

/**
 * Frames of up to 16 timbers and 48 joints by both customs: joins against assignments of least cost, raisings by
 * sets of timbers, from the whole frame down (promises 17 to 23).
 */
public final class WholeTest {
    private static final int RUNS = 300;
    private static final int NONE = FrameReader.NONE;
    private static final String[] KINDS = {"post", "beam", "rafter", "brace"};
    private static final String[] MARKS = {"I", "II", "?", "V", "VI'", "I'", "??", "X?'", "IX", "???"};
    private static final Due DUE = new Due("WholeTest");

    private final FrameReader x = new FrameReader();
    private final Lot lot;
    private final String name;
    private final List<Integer> kinds = new ArrayList<>();
    private final List<int[]> joints = new ArrayList<>();
    private boolean[][] mates;

    private WholeTest(int run) {
        lot = new Lot(run);
        name = "run " + run + " ";
    }

    public static void main(String[] args) {
        for (int run = 0; run < RUNS; run++) {
            WholeTest test = new WholeTest(run);
            test.tell();
            boolean[] taken = new boolean[test.joints.size()];
            test.dueJoin(0, taken);
            test.dueFrames(0);
            test.dueJoin(1, taken);
            test.dueFrames(1);
        }
        DUE.end();
    }

    private void tell() {
        int timbers = lot.between(6, 16);
        for (int t = 0; t < timbers; t++) {
            kinds.add(lot.below(4));
            x.timber(kinds.get(t), 9);
        }
        int most = lot.between(20, 48);
        int largest = lot.between(1, 6);
        for (int j = 0; j < most; j++) {
            int[] joint = {lot.below(timbers), lot.below(2), lot.between(1, largest)};
            if (x.joint(joint[0], 0, joint[1], joint[2]) != NONE) {
                joints.add(joint);
            }
        }
        for (int j = 0; j < joints.size(); j++) {
            if (lot.below(3) > 0) {
                Feeder.mark(x, j, MARKS[lot.below(MARKS.length)]);
            }
        }
        Feeder.custom(x, 0, customText());
        Feeder.custom(x, 1, customText());
    }

    private String customText() {
        StringBuilder text = new StringBuilder();
        int often = lot.between(1, 4);
        for (String k : KINDS) {
            for (String m : KINDS) {
                text.append(lot.below(4) < often ? k + " into " + m + ";" : "");
            }
        }
        for (int i = lot.below(lot.oneIn(3) ? 14 : 6); i > 0; i--) {
            text.append(KINDS[lot.below(4)]).append(" ahead ").append(KINDS[lot.below(4)]).append(";");
        }
        return text.append("slack ").append(lot.below(4)).append(";hold ").append(lot.below(6)).append(";").toString();
    }

    private List<Integer> idle(int sort, boolean[] taken) {
        List<Integer> idle = new ArrayList<>();
        for (int j = 0; j < joints.size(); j++) {
            if (!taken[j] && joints.get(j)[1] == sort) {
                idle.add(j);
            }
        }
        return idle;
    }

    private void dueJoin(int c, boolean[] taken) {
        List<Integer> tenons = idle(0, taken);
        List<Integer> holes = idle(1, taken);
        int[][] more = new int[tenons.size()][holes.size()];
        for (int i = 0; i < more.length; i++) {
            for (int k = 0; k < holes.size(); k++) {
                int larger = joints.get(holes.get(k))[2] - joints.get(tenons.get(i))[2];
                more[i][k] = x.fits(c, tenons.get(i), holes.get(k)) == 1 ? larger : NONE;
            }
        }
        int[] any = new int[more.length];
        Arrays.fill(any, Assignment.ANY);
        int[] first = firstOfBest(more, holes.size());
        long best = Assignment.cost(more, holes.size(), any, NONE, NONE);
        mates = new boolean[kinds.size()][kinds.size()];
        int[] sums = new int[3];
        for (int i = 0; i < more.length; i++) {
            int t = tenons.get(i);
            int h = first[i] < 0 ? NONE : holes.get(first[i]);
            DUE.is(name + "mate " + c + " " + t, x.mate(c, t), h);
            if (h != NONE) {
                boolean forced = Assignment.cost(more, holes.size(), any, i, first[i]) != best;
                DUE.is(name + "mate " + c + " " + h, x.mate(c, h), t);
                DUE.is(name + "forced " + c + " " + t, x.forced(c, t), forced ? 1 : 0);
                DUE.is(name + "forced " + c + " " + h, x.forced(c, h), forced ? 1 : 0);
                sums[0]++;
                sums[1] += more[i][first[i]];
                sums[2] += forced ? 1 : 0;
                taken[t] = true;
                taken[h] = true;
                mates[joints.get(t)[0]][joints.get(h)[0]] = true;
                mates[joints.get(h)[0]][joints.get(t)[0]] = true;
            }
        }
        for (int what = 0; what < sums.length; what++) {
            DUE.is(name + "join " + c + " " + what, x.join(c, what), sums[what]);
        }
    }

    /** TENON by TENON the least HOLE with which the whole still costs as little. */
    private static int[] firstOfBest(int[][] more, int holes) {
        int[] wishes = new int[more.length];
        Arrays.fill(wishes, Assignment.ANY);
        long best = Assignment.cost(more, holes, wishes, NONE, NONE);
        for (int i = 0; i < more.length; i++) {
            for (int k = 0; k < holes && wishes[i] < 0; k++) {
                if (more[i][k] >= 0) {
                    wishes[i] = k;
                    wishes[i] = Assignment.cost(more, holes, wishes, NONE, NONE) == best ? k : Assignment.ANY;
                }
            }
            if (wishes[i] == Assignment.ANY) {
                wishes[i] = Assignment.NO_HOLE;
            }
        }
        return wishes;
    }

    private void dueFrames(int c) {
        int frames = 0;
        int done = 0;
        for (int t = 0; t < kinds.size(); t++) {
            int set = hangingOn(t);
            if (Integer.bitCount(set) < 2) {
                DUE.is(name + "frameOf " + c + " " + t, x.frameOf(c, t), NONE);
            } else if ((done >> t & 1) == 0) {
                DUE.is(name + "frame " + c + " " + frames, x.frame(c, frames, 0), set);
                DUE.is(name + "frameOf " + c + " " + t, x.frameOf(c, t), frames);
                dueRaising(c, frames, set);
                frames++;
                done |= set;
            }
        }
        DUE.is(name + "frames " + c, x.join(c, 3), frames);
    }

    private int hangingOn(int t) {
        int set = 1 << t;
        for (int round = 0; round < kinds.size(); round++) {
            for (int a = 0; a < kinds.size(); a++) {
                for (int b = 0; b < kinds.size(); b++) {
                    set |= (set >> a & 1) == 1 && mates[a][b] ? 1 << b : 0;
                }
            }
        }
        return set;
    }

    private void dueRaising(int c, int f, int whole) {
        int[] members = members(whole);
        int full = (1 << members.length) - 1;
        long[] orders = new long[full + 1];
        int[] most = new int[full + 1];
        orders[full] = 1;
        for (int set = full - 1; set >= 0; set--) {
            int least = 99;
            for (int i = 0; i < members.length; i++) {
                if (mayCome(c, members, set, i)) {
                    int next = set | 1 << i;
                    orders[set] += orders[next];
                    least = orders[next] > 0 ? Math.min(least, Math.max(props(c, members, next), most[next])) : least;
                }
            }
            most[set] = least;
        }
        String call = name + "frame " + c + " " + f + " ";
        DUE.is(call + "orders", x.orders(c, f), orders[0]);
        DUE.is(call + "can be raised", x.frame(c, f, 3), orders[0] > 0 ? 1 : 0);
        DUE.is(call + "MOST", x.frame(c, f, 2), orders[0] > 0 ? most[0] : NONE);
        DUE.is(call + "behind the last", x.raised(c, f, members.length), NONE);
        int set = 0;
        for (int step = 0; step < members.length; step++) {
            int i = x.raised(c, f, step) == NONE ? NONE : firstTo(c, members, set, orders, most);
            DUE.is(call + "raised " + step, x.raised(c, f, step), i < 0 || orders[0] == 0 ? NONE : members[i]);
            set |= i < 0 ? 0 : 1 << i;
        }
    }

    /** The least TIMBER that can come, so that no step from there on needs more PROPS than the whole raising. */
    private int firstTo(int c, int[] members, int set, long[] orders, int[] most) {
        for (int i = 0; i < members.length; i++) {
            int next = set | 1 << i;
            if (mayCome(c, members, set, i) && orders[next] > 0
                    && Math.max(props(c, members, next), most[next]) <= most[0]) {
                return i;
            }
        }
        return NONE;
    }

    private static int[] members(int whole) {
        int[] members = new int[Integer.bitCount(whole)];
        int count = 0;
        for (int t = 0; t < 16; t++) {
            if ((whole >> t & 1) == 1) {
                members[count] = t;
                count++;
            }
        }
        return members;
    }

    private boolean mayCome(int c, int[] members, int set, int i) {
        if ((set >> i & 1) == 1) {
            return false;
        }
        for (int k = 0; k < members.length; k++) {
            int a = members[k];
            int b = members[i];
            if ((set >> k & 1) == 0 && mates[a][b] && x.customs(c, 30 + 4 * kinds.get(a) + kinds.get(b)) == 1) {
                return false;
            }
        }
        return true;
    }

    private int props(int c, int[] members, int set) {
        int count = 0;
        for (int i = 0; i < members.length; i++) {
            int stand = 0;
            int all = 0;
            for (int k = 0; k < members.length; k++) {
                if (mates[members[i]][members[k]]) {
                    all++;
                    stand += set >> k & 1;
                }
            }
            count += (set >> i & 1) == 1 && stand < x.customs(c, 3) && stand < all ? 1 : 0;
        }
        return count;
    }
}
