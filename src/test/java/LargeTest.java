import java.util.ArrayList;
import java.util.Arrays;
import java.util.List;

/** Frames too large for the Model: joins by sets of HOLES, and orders of trees by a formula. */
public final class LargeTest {
    private static final int NONE = FrameReader.NONE;
    private static final String[] MARKS = {"I'", "II'", "III'", "I", "II", "III", "V", "VI", "VII"};
    private static final Due DUE = new Due("LargeTest");

    private LargeTest() {
    }

    public static void main(String[] args) {
        for (int run = 0; run < 60; run++) {
            joins(run);
        }
        for (int run = 0; run < 20; run++) {
            trees(run);
        }
        DUE.end();
    }

    private static void joins(int run) {
        Lot lot = new Lot(run);
        FrameReader x = new FrameReader();
        for (int t = 0; t < 16; t++) {
            x.timber(lot.below(2), 9);
        }
        List<Integer> tenons = new ArrayList<>();
        List<Integer> holes = new ArrayList<>();
        int[] size = new int[48];
        for (int j = 0; j < 48; j++) {
            int sort = holes.size() < 11 && lot.oneIn(run % 3 + 2) ? 1 : 0;
            size[j] = lot.between(1, run % 2 == 0 ? 9 : 4);
            DUE.is("joint", x.joint(j % 16, 0, sort, size[j]), j);
            (sort == 1 ? holes : tenons).add(j);
        }
        String slack = "slack " + run % 4 + ";";
        Feeder.custom(x, 0, run % 5 == 0 ? "post into beam;beam into beam;" + slack : "beam into post;" + slack);
        boolean[][] fit = new boolean[48][48];
        for (int t : tenons) {
            for (int h : holes) {
                int a = t % 16;
                int b = h % 16;
                boolean into = run % 5 == 0 ? x.of(b, 0) == 1 : x.of(a, 0) == 1 && x.of(b, 0) == 0;
                fit[t][h] = a != b && into && size[h] >= size[t] && size[h] <= size[t] + run % 4;
            }
        }
        dueJoin(x, run, tenons, holes, new Table(tenons, holes, size, fit));
    }

    private static void dueJoin(FrameReader x, int run, List<Integer> tenons, List<Integer> holes, Table table) {
        int best = table.fill(NONE, NONE);
        DUE.is("pairs of run " + run, x.join(0, 0), table.pairs(best));
        DUE.is("sum of run " + run, x.join(0, 1), table.sum(best));
        int[] want = table.first();
        int forced = 0;
        for (int i = 0; i < tenons.size(); i++) {
            DUE.is("mate in run " + run, x.mate(0, tenons.get(i)), want[i]);
            if (want[i] != NONE) {
                boolean sure = table.fill(i, holes.indexOf(want[i])) != best;
                forced += sure ? 1 : 0;
                DUE.is("forced in run " + run, x.forced(0, want[i]), sure ? 1 : 0);
            }
        }
        DUE.is("forced of run " + run, x.join(0, 2), forced);
    }

    /** The best from each TENON on with each set of HOLES taken: 1000 for a pair, less 1 for each larger size. */
    private static final class Table {
        private final List<Integer> tenons;
        private final List<Integer> holes;
        private final int[] size;
        private final boolean[][] fit;
        private final int[][] best;

        Table(List<Integer> tenons, List<Integer> holes, int[] size, boolean[][] fit) {
            this.tenons = tenons;
            this.holes = holes;
            this.size = size;
            this.fit = fit;
            best = new int[tenons.size() + 1][1 << holes.size()];
        }

        int pairs(int score) {
            return (score + 999) / 1000;
        }

        int sum(int score) {
            return 1000 * pairs(score) - score;
        }

        private int worth(int i, int h) {
            int t = tenons.get(i);
            int hole = holes.get(h);
            return fit[t][hole] ? 1000 - (size[hole] - size[t]) : -1;
        }

        int fill(int withoutTenon, int withoutHole) {
            for (int i = tenons.size() - 1; i >= 0; i--) {
                for (int taken = 0; taken < 1 << holes.size(); taken++) {
                    int most = best[i + 1][taken];
                    for (int h = 0; h < holes.size(); h++) {
                        boolean open = (taken >> h & 1) == 0 && (i != withoutTenon || h != withoutHole);
                        if (open && worth(i, h) >= 0) {
                            most = Math.max(most, worth(i, h) + best[i + 1][taken | 1 << h]);
                        }
                    }
                    best[i][taken] = most;
                }
            }
            return best[0][0];
        }

        int[] first() {
            int[] mates = new int[tenons.size()];
            Arrays.fill(mates, NONE);
            int taken = 0;
            for (int i = 0; i < tenons.size(); i++) {
                for (int h = 0; h < holes.size(); h++) {
                    if ((taken >> h & 1) == 0 && worth(i, h) >= 0
                            && worth(i, h) + best[i + 1][taken | 1 << h] == best[i][taken]) {
                        mates[i] = holes.get(h);
                        taken |= 1 << h;
                        break;
                    }
                }
            }
            return mates;
        }
    }

    /** A tree whose KINDS go by depth: of n TIMBERS n! by the product of the sizes of all subtrees. */
    private static void trees(int run) {
        Lot lot = new Lot(1000 + run);
        int n = run == 0 ? 16 : lot.between(8, 16);
        int[] parent = new int[n];
        int[] depth = new int[n];
        int[] children = new int[n];
        FrameReader x = new FrameReader();
        for (int t = 0; t < n; t++) {
            parent[t] = t == 0 ? NONE : lot.below(t);
            while (t > 0 && (depth[parent[t]] == 3 || children[parent[t]] == 5)) {
                parent[t] = lot.below(t);
            }
            depth[t] = t == 0 ? 0 : depth[parent[t]] + 1;
            x.timber(depth[t], 9);
            if (t > 0) {
                children[parent[t]]++;
                String mark = "X".repeat(t / 9) + MARKS[t % 9];
                Feeder.mark(x, x.joint(parent[t], 0, 1, 1 + t % 9), mark);
                Feeder.mark(x, x.joint(t, 0, 0, 1 + t % 9), mark);
            }
        }
        String into = "beam into post;rafter into beam;brace into rafter;slack 0;hold 1;";
        Feeder.custom(x, 0, into + "post ahead beam;beam ahead rafter;rafter ahead brace;");
        DUE.is("pairs of tree " + run, x.join(0, 0), n - 1);
        DUE.is("members of tree " + run, x.frame(0, 0, 0), (1 << n) - 1);
        int[] under = new int[n];
        long orders = 1;
        for (int t = n - 1; t >= 0; t--) {
            under[t]++;
            if (t > 0) {
                under[parent[t]] += under[t];
            }
        }
        for (int t = 1; t <= n; t++) {
            orders *= t;
        }
        for (int t = 0; t < n; t++) {
            orders /= under[t];
        }
        DUE.is("orders of tree " + run, x.orders(0, 0), orders);
        // From the root on one MATE stands always, so all go up by number with one prop at the first step.
        DUE.is("most of tree " + run, x.frame(0, 0, 2), 1);
        for (int t = 0; t < n; t++) {
            DUE.is("tree " + run + " step " + t, x.raised(0, 0, t), t);
        }
        Feeder.custom(x, 0, into);
        long all = 1;
        for (int t = 2; t <= n; t++) {
            all *= t;
        }
        DUE.is("all orders of tree " + run, x.orders(0, 0), all);
    }
}
