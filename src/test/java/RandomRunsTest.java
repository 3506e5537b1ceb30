import java.util.Random;

/** Runs of 512 calls, the same in each test run, on the program and on the document word by word. */
public final class RandomRunsTest {
    private static final int NONE = LostDesk.NONE;
    private static final int RUNS = 160;
    private static final int CALLS = 512;
    private static final int[] EDGES = {
        Integer.MIN_VALUE, -2, -1, 0, 1, 11, 12, 23, 24, 39, 40, 100, 101, 1000, 1001, 65535, 65536,
        100000, 100001, 200000, 200001, 1000000, 1000001, Integer.MAX_VALUE
    };
    private static final Check CHECK = new Check();

    private final Random random;
    private final LostDesk desk = new LostDesk();
    private final PlainDesk plain = new PlainDesk();
    private final int fewMarks;
    private final int fewColours;
    private final int fewFinds;
    private final int ticks;
    private int kinds = 0;
    private int places = 0;
    private int finds = 0;
    private int losses = 0;
    private int now = 0;

    private RandomRunsTest(int run) {
        random = new Random(1000 + run);
        fewMarks = (1 << 1 + random.nextInt(16)) - 1;
        fewColours = 1 + random.nextInt(4);
        fewFinds = random.nextInt(8) == 0 ? 25 : 7;
        ticks = random.nextBoolean() ? 60 : 1500;
    }

    public static void main(String[] args) {
        for (int run = 0; run < RUNS; run++) {
            new RandomRunsTest(run).run(run);
        }
        CHECK.end();
    }

    private void run(int run) {
        for (int call = 0; call < CALLS; call++) {
            String name = "run " + run + " call " + call + " ";
            compare(name, random.nextInt(call < 60 ? 8 : 25));
            CHECK.due(name + "status()", desk.status(), plain.status());
        }
    }

    /** Mostly a number there is, at times one beside, at times an edge of the document. */
    private int pick(int count) {
        int chance = random.nextInt(40);
        if (chance == 0) return EDGES[random.nextInt(EDGES.length)];
        if (chance == 1) return count;
        return count == 0 ? NONE : random.nextInt(count);
    }

    private int marks() {
        return random.nextInt(40) == 0 ? pick(65536) : random.nextInt(65536) & fewMarks;
    }

    private int colour() {
        return random.nextInt(6) == 0 ? NONE : pick(fewColours);
    }

    private void compare(String name, int which) {
        if (which < 8) compareTold(name, which);
        else if (which < 16) compareAsked(name, which);
        else compareKept(name, which);
    }

    private void compareTold(String name, int which) {
        switch (which) {
            case 0: {
                int above = kinds == 0 ? pick(0) : random.nextInt(3) > 0 ? kinds - 1 : pick(kinds);
                int got = desk.kind(above);
                CHECK.due(name + "kind(" + above + ")", got, plain.kind(above));
                if (got != NONE) kinds++;
                break;
            }
            case 1: {
                int a = pick(fewColours + 1);
                int b = pick(fewColours + 1);
                boolean is = random.nextBoolean();
                same(name + "near(" + a + ", " + b + ", " + is + ")", desk.near(a, b, is), plain.near(a, b, is));
                break;
            }
            case 2: {
                int got = desk.place();
                CHECK.due(name + "place()", got, plain.place());
                if (got != NONE) places++;
                break;
            }
            case 3:
            case 4: {
                int a = pick(places);
                int b = pick(places);
                int length = random.nextInt(4) == 0 ? NONE : 1 + pick(ticks / 3);
                same(name + "way(" + a + ", " + b + ", " + length + ")", desk.way(a, b, length), plain.way(a, b, length));
                break;
            }
            case 5: {
                int a = pick(places);
                int b = pick(places);
                CHECK.due(name + "far(" + a + ", " + b + ")", desk.far(a, b), plain.far(a, b));
                break;
            }
            case 6:
                tellFind(name);
                break;
            default:
                tellLoss(name);
                break;
        }
    }

    private void tellFind(String name) {
        if (finds >= fewFinds) return;
        int kind = pick(kinds);
        int colour = colour();
        int marks = marks();
        int place = pick(places);
        int tick = pick(ticks);
        int got = desk.found(kind, colour, marks, place, tick);
        CHECK.due(name + "found", got, plain.found(kind, colour, marks, place, tick));
        if (got != NONE) finds++;
    }

    private void tellLoss(String name) {
        int kind = random.nextBoolean() && kinds > 0 ? 0 : pick(kinds);
        int colour = colour();
        int marks = marks() & random.nextInt(65536);
        int place = pick(places);
        int from = random.nextInt(1 + ticks / 2);
        int to = random.nextInt(30) == 0 ? pick(from + 1) : from + random.nextInt(1 + ticks / 2);
        int got = desk.lost(kind, colour, marks, place, from, to);
        CHECK.due(name + "lost", got, plain.lost(kind, colour, marks, place, from, to));
        if (got != NONE) losses++;
    }

    private void compareAsked(String name, int which) {
        int loss = pick(losses);
        int find = pick(finds);
        int number = pick(which == 15 ? 25 : 8);
        switch (which) {
            case 8:
                CHECK.due(name + "told(" + find + ", " + number + ")", desk.told(find, number), plain.told(find, number));
                break;
            case 9:
                CHECK.due(name + "cost(" + loss + ", " + find + ")", desk.cost(loss, find), plain.cost(loss, find));
                break;
            case 10: {
                int gap = random.nextInt(3) == 0 ? pick(101) : pick(20);
                same(name + "gap(" + gap + ")", desk.gap(gap), plain.gap(gap));
                break;
            }
            case 11:
                CHECK.due(name + "match()", desk.match(), plain.match());
                break;
            case 12:
                for (int each = -1; each <= losses; each++) {
                    CHECK.due(name + "matched(" + each + ")", desk.matched(each), plain.matched(each));
                }
                break;
            case 13:
                for (int each = 0; each < losses; each++) {
                    int s = random.nextInt(30) == 0 ? pick(1001) : random.nextInt(12);
                    CHECK.due(name + "sure(" + each + ", " + s + ")", desk.sure(each, s), plain.sure(each, s));
                }
                break;
            case 14: {
                int marks = marks();
                CHECK.due(name + "alike(" + find + ", " + marks + ")", desk.alike(find, marks), plain.alike(find, marks));
                break;
            }
            default: {
                int k = random.nextBoolean() ? 1 + random.nextInt(4) : number;
                CHECK.due(name + "questions(" + find + ", " + k + ")", desk.questions(find, k), plain.questions(find, k));
                break;
            }
        }
    }

    private void compareKept(String name, int which) {
        int loss = pick(losses);
        int find = pick(finds);
        switch (which) {
            case 16:
            case 17:
                compareClaim(name, loss, find);
                break;
            case 18:
                if (random.nextInt(3) > 0) same(name + "hand(" + loss + ", " + find + ")", desk.hand(loss, find), plain.hand(loss, find));
                break;
            case 19: {
                int other = pick(finds);
                if (random.nextInt(3) == 0) same(name + "bag(" + find + ", " + other + ")", desk.bag(find, other), plain.bag(find, other));
                break;
            }
            case 20: {
                int kind = pick(kinds);
                int days = random.nextBoolean() ? NONE : 1 + pick(40);
                same(name + "keeping(" + kind + ", " + days + ")", desk.keeping(kind, days), plain.keeping(kind, days));
                break;
            }
            case 21:
                CHECK.due(name + "due(" + find + ")", desk.due(find), plain.due(find));
                break;
            case 22: {
                int tick = random.nextInt(30) == 0 ? Math.min(pick(5000), 3000) : now + random.nextInt(60);
                int got = desk.tick(tick);
                CHECK.due(name + "tick(" + tick + ")", got, plain.tick(tick));
                if (got != NONE) now = tick;
                break;
            }
            case 23:
                compareReward(name, find);
                break;
            default:
                for (int k = -1; k <= 8; k++) {
                    CHECK.due(name + "out(" + k + ")", desk.out(k), plain.out(k));
                }
                break;
        }
    }

    private void compareClaim(String name, int loss, int find) {
        int asked = marks() | (random.nextInt(20) > 0 ? 1 : 0);
        // The program hides MARKS, so guesses on one MARK are those that are often RIGHT.
        if (random.nextBoolean()) asked = 1 << random.nextInt(3);
        int answered = random.nextInt(20) == 0 ? marks() : random.nextInt(65536) & asked;
        String call = name + "claim(" + loss + ", " + find + ", " + asked + ", " + answered + ")";
        CHECK.due(call, desk.claim(loss, find, asked, answered), plain.claim(loss, find, asked, answered));
    }

    private void compareReward(String name, int find) {
        int pennies = random.nextBoolean() ? pick(1000001) : random.nextInt(40);
        int finders = random.nextInt(9);
        long shares = 0;
        for (int k = 0; k < finders; k++) {
            long share = random.nextInt(60) == 0 ? random.nextInt(256) : 1 + random.nextInt(100);
            shares |= share << 8 * k;
        }
        int first = (int) shares;
        int second = (int) (shares >>> 32);
        String call = name + "reward(" + find + ", " + pennies + ", " + first + ", " + second + ")";
        CHECK.due(call, desk.reward(find, pennies, first, second), plain.reward(find, pennies, first, second));
    }

    private static void same(String call, boolean got, boolean want) {
        CHECK.due(call, got ? 1 : 0, want ? 1 : 0);
    }
}
