import java.util.Random;

/** Promises 13 to 15 on desks where many MATCHINGS cost the same, compared with plain trying. */
public final class ManyMatchingsTest {
    private static final int NONE = LostDesk.NONE;
    private static final int SMALL_DESKS = 4000;
    private static final int FULL_DESKS = 40;
    private static final Check CHECK = new Check();

    private final Random random;
    private final LostDesk desk = Desks.town();

    private ManyMatchingsTest(int seed) {
        random = new Random(seed);
    }

    public static void main(String[] args) {
        for (int seed = 0; seed < SMALL_DESKS; seed++) {
            ManyMatchingsTest test = new ManyMatchingsTest(seed);
            test.compare("desk " + seed, 2 + test.random.nextInt(6), 2 + test.random.nextInt(6));
        }
        for (int seed = 0; seed < FULL_DESKS; seed++) {
            new ManyMatchingsTest(-1 - seed).compare("full desk " + seed, 24, 24);
        }
        CHECK.end();
    }

    private void compare(String name, int losses, int finds) {
        int marks = random.nextInt(1 << 1 + random.nextInt(5));
        int kinds = 1 + random.nextInt(4);
        for (int find = 0; find < finds; find++) {
            desk.found(random.nextInt(kinds), colour(), random.nextInt(65536) & marks, random.nextInt(2), 30);
        }
        for (int loss = 0; loss < losses; loss++) {
            int from = random.nextInt(3) * 10;
            desk.lost(random.nextInt(kinds), colour(), random.nextInt(65536) & marks, random.nextInt(2), from, from);
        }
        int gap = random.nextInt(3) == 0 ? 20 : random.nextInt(8);
        desk.gap(gap);
        int[][] prices = new int[losses][finds];
        for (int loss = 0; loss < losses; loss++) {
            for (int find = 0; find < finds; find++) {
                prices[loss][find] = desk.cost(loss, find);
            }
        }
        compareBest(name, prices, gap);
    }

    private int colour() {
        return random.nextInt(4) - 1;
    }

    private void compareBest(String name, int[][] prices, int gap) {
        int least = PlainMatching.leastCost(prices, gap);
        int[] first = PlainMatching.first(prices, gap);
        CHECK.given(desk, name + " match()", desk.match(), least);
        for (int loss = 0; loss < prices.length; loss++) {
            String call = name + " matched(" + loss + ")";
            if (first[loss] == NONE) {
                CHECK.refused(desk, call, desk.matched(loss), 7);
                CHECK.refused(desk, name + " sure(" + loss + ")", desk.sure(loss, 0), 7);
            } else {
                CHECK.given(desk, call, desk.matched(loss), first[loss]);
                compareSure(name, prices, gap, loss, first[loss], least);
            }
        }
    }

    private void compareSure(String name, int[][] prices, int gap, int loss, int find, int least) {
        int[][] others = PlainMatching.copy(prices);
        others[loss][find] = NONE;
        int more = PlainMatching.leastCost(others, gap) - least;
        CHECK.given(desk, name + " sure(" + loss + ", " + more + ")", desk.sure(loss, more), 0);
        if (more > 0) CHECK.given(desk, name + " sure(" + loss + ", " + (more - 1) + ")", desk.sure(loss, more - 1), 1);
    }
}
