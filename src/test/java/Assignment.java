import java.util.Arrays;

/**
 * The least cost of giving each of n rows a column of its own (the Hungarian method). It finds joins in another way
 * than the class does: a TENON gets a HOLE, or at a high cost a column of its own that stands for none.
 */
final class Assignment {
    private static final long FAR = Long.MAX_VALUE / 4;
    private static final long NO_PAIR = 1_000_000;
    private static final long BANNED = 1_000_000_000_000L;
    /** In a row of wishes: any HOLE or none. */
    static final int ANY = -2;
    static final int NO_HOLE = -1;

    private Assignment() {
    }

    /** Of more[i][k] how much larger HOLE k is than TENON i, below 0 if it does not fit; pair bannedI, bannedK is not taken. */
    static long cost(int[][] more, int holes, int[] wishes, int bannedI, int bannedK) {
        int tenons = more.length;
        int n = tenons + holes;
        long[][] costs = new long[n][n];
        for (int i = 0; i < tenons; i++) {
            for (int k = 0; k < n; k++) {
                boolean isHole = k < holes;
                boolean wished = wishes[i] == ANY || (isHole ? wishes[i] == k : wishes[i] == NO_HOLE);
                boolean can = wished && !(i == bannedI && k == bannedK) && (!isHole || more[i][k] >= 0);
                costs[i][k] = !can ? BANNED : isHole ? more[i][k] : NO_PAIR;
            }
        }
        return least(costs);
    }

    private static long least(long[][] costs) {
        int n = costs.length;
        long[] rowPrice = new long[n + 1];
        long[] columnPrice = new long[n + 1];
        int[] rowOf = new int[n + 1];
        for (int row = 1; row <= n; row++) {
            addRow(costs, row, rowPrice, columnPrice, rowOf);
        }
        return -columnPrice[0];
    }

    /** Column 0 stands for the row that has none yet. */
    private static void addRow(long[][] costs, int row, long[] rowPrice, long[] columnPrice, int[] rowOf) {
        int n = costs.length;
        int[] ahead = new int[n + 1];
        long[] slack = new long[n + 1];
        boolean[] used = new boolean[n + 1];
        Arrays.fill(slack, FAR);
        rowOf[0] = row;
        int column = 0;
        while (rowOf[column] != 0) {
            used[column] = true;
            int nearest = 0;
            for (int k = 1; k <= n; k++) {
                if (!used[k]) {
                    long cost = costs[rowOf[column] - 1][k - 1] - rowPrice[rowOf[column]] - columnPrice[k];
                    if (cost < slack[k]) {
                        slack[k] = cost;
                        ahead[k] = column;
                    }
                    if (nearest == 0 || slack[k] < slack[nearest]) {
                        nearest = k;
                    }
                }
            }
            long step = slack[nearest];
            for (int k = 0; k <= n; k++) {
                if (used[k]) {
                    rowPrice[rowOf[k]] += step;
                    columnPrice[k] -= step;
                } else {
                    slack[k] -= step;
                }
            }
            column = nearest;
        }
        while (column != 0) {
            rowOf[column] = rowOf[ahead[column]];
            column = ahead[column];
        }
    }
}
