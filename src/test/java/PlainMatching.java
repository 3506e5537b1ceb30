import java.util.Arrays;

/** BEST by plain trying: slow, and by other ways than the program's. A price of NONE bars a pair. */
final class PlainMatching {
    private static final int NONE = LostDesk.NONE;
    private static final int MUCH = 1_000_000;
    private static final int FEW_FINDS = 7;

    private PlainMatching() {
    }

    static int leastCost(int[][] prices, int gap) {
        if (prices.length == 0) return 0;
        return prices[0].length <= FEW_FINDS ? leastBySets(prices, gap) : leastByChains(prices, gap);
    }

    /** LOSS by LOSS the lesser FIND with which the least COST can still be had. */
    static int[] first(int[][] prices, int gap) {
        int[] finds = new int[prices.length];
        int[][] left = copy(prices);
        int due = leastCost(left, gap);
        for (int loss = 0; loss < prices.length; loss++) {
            finds[loss] = NONE;
            int[][] behind = Arrays.copyOfRange(left, loss + 1, left.length);
            for (int find = 0; find < left[loss].length && finds[loss] == NONE; find++) {
                int price = left[loss][find];
                if (price != NONE && price + leastCost(without(behind, find), gap) == due) finds[loss] = find;
            }
            due -= finds[loss] == NONE ? gap : left[loss][finds[loss]];
            if (finds[loss] != NONE) left = without(left, finds[loss]);
        }
        return finds;
    }

    static int[][] copy(int[][] prices) {
        int[][] copied = new int[prices.length][];
        for (int loss = 0; loss < prices.length; loss++) copied[loss] = prices[loss].clone();
        return copied;
    }

    private static int[][] without(int[][] prices, int find) {
        int[][] left = copy(prices);
        for (int[] row : left) row[find] = NONE;
        return left;
    }

    /** For each set of FINDS the least COST of the LOSSES so far that take just these. */
    private static int leastBySets(int[][] prices, int gap) {
        int finds = prices[0].length;
        int[] least = new int[1 << finds];
        Arrays.fill(least, MUCH);
        least[0] = 0;
        for (int[] row : prices) {
            for (int set = least.length - 1; set >= 0; set--) {
                int cost = least[set] + gap;
                for (int find = 0; find < finds; find++) {
                    boolean taken = (set >> find & 1) != 0 && row[find] != NONE;
                    if (taken) cost = Math.min(cost, least[set ^ 1 << find] + row[find]);
                }
                least[set] = Math.min(cost, MUCH);
            }
        }
        return Arrays.stream(least).min().getAsInt();
    }

    /** LOSS after LOSS by the cheapest chain, which Bellman and Ford's rounds find. */
    private static int leastByChains(int[][] prices, int gap) {
        int finds = prices[0].length;
        int[] taker = new int[finds];
        Arrays.fill(taker, NONE);
        int sum = 0;
        for (int loss = 0; loss < prices.length; loss++) {
            int[] cost = new int[finds];
            int[] before = new int[finds];
            Arrays.fill(before, NONE);
            for (int find = 0; find < finds; find++) cost[find] = prices[loss][find] == NONE ? MUCH : prices[loss][find];
            int best = gap;
            int end = NONE;
            boolean benched = true;
            for (boolean changed = true; changed; ) {
                changed = false;
                for (int from = 0; from < finds; from++) {
                    if (cost[from] >= MUCH || taker[from] == NONE) continue;
                    int[] row = prices[taker[from]];
                    for (int to = 0; to < finds; to++) {
                        if (to == from || row[to] == NONE) continue;
                        int there = cost[from] - row[from] + row[to];
                        if (there < cost[to]) {
                            cost[to] = there;
                            before[to] = from;
                            changed = true;
                        }
                    }
                }
            }
            for (int find = 0; find < finds; find++) {
                if (cost[find] >= MUCH) continue;
                int whole = taker[find] == NONE ? cost[find] : cost[find] - prices[taker[find]][find] + gap;
                if (whole < best) {
                    best = whole;
                    end = find;
                    benched = taker[find] != NONE;
                }
            }
            sum += best;
            if (end == NONE && benched) continue;
            for (int find = end; find != NONE; find = before[find]) {
                taker[find] = before[find] == NONE ? loss : taker[before[find]];
            }
        }
        return sum;
    }
}
