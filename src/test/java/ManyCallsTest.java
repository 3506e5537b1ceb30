import java.util.Random;

/** As many calls on one object as the document allows, and more, where the answers are free but no call may throw. */
public final class ManyCallsTest {
    private static final int WILD_DESKS = 200;
    private static final int WILD_CALLS = 2000;
    private static final int[] WILD = {
        Integer.MIN_VALUE, -65536, -2, -1, 0, 1, 2, 3, 5, 11, 12, 15, 16, 19, 20, 23, 24, 31, 32, 39, 40, 63, 64, 100, 101,
        255, 256, 1000, 1001, 65535, 65536, 100000, 100001, 200000, 1000000, 0x01010101, 0x64646464, Integer.MAX_VALUE
    };
    private static final Check CHECK = new Check();

    public static void main(String[] args) {
        fiveHundredTwelveCalls();
        allCallsAreRefused();
        wildCalls();
        CHECK.end();
    }

    private static void fiveHundredTwelveCalls() {
        Scene scene = new Scene(CHECK, "An object is used for at most 512 calls after it has been made;");
        scene.small().finds(24).losses(24);
        int made = 50;
        for (int loss = 0; loss < 24; loss++) {
            for (int k = 0; k < 8; k++) {
                scene.gives(1, "claim", loss, (loss + k) % 24, 32768, 0);
                made++;
            }
        }
        // Each call of a scene is two with its status().
        CHECK.due("calls so far", 2 * made, 484);
        for (int more = 0; more < 14; more++) {
            scene.gives(more % 2 == 0 ? 0 : 23, "matched", more % 2 == 0 ? 0 : 23);
        }
    }

    private static void allCallsAreRefused() {
        LostDesk desk = new LostDesk();
        for (int call = 0; call < 255; call++) {
            CHECK.refused(desk, "kind(" + call + ")", desk.kind(call), 1);
        }
        CHECK.given(desk, "kind(NONE), the 511th call", desk.kind(LostDesk.NONE), 0);
    }

    private static void wildCalls() {
        Scene scene = new Scene(CHECK, "what later calls answer is free.");
        scene.gives(0, "status");
        for (int seed = 0; seed < WILD_DESKS; seed++) {
            Random random = new Random(seed);
            LostDesk desk = Desks.small();
            Desks.numberedFinds(desk, random.nextInt(25));
            Desks.openLosses(desk, random.nextInt(25));
            for (int call = 0; call < WILD_CALLS; call++) {
                wildCall(desk, random);
            }
            int status = desk.status();
            CHECK.due("status() is 0 to 8", status >= 0 && status <= 8 ? 1 : 0, 1);
        }
    }

    private static void wildCall(LostDesk desk, Random random) {
        int a = wild(random);
        int b = wild(random);
        int c = wild(random);
        int d = wild(random);
        switch (random.nextInt(23)) {
            case 0 -> desk.kind(a);
            case 1 -> desk.near(a, b, c > 0);
            case 2 -> desk.place();
            case 3 -> desk.way(a, b, c);
            case 4 -> desk.far(a, b);
            case 5 -> desk.found(a, b, c, d, wild(random));
            case 6 -> desk.lost(a, b, c, d, wild(random), wild(random));
            case 7 -> desk.told(a, b);
            case 8 -> desk.cost(a, b);
            case 9 -> desk.gap(a);
            case 10 -> desk.match();
            case 11 -> desk.matched(a);
            case 12 -> desk.sure(a, b);
            case 13 -> desk.alike(a, b);
            case 14 -> desk.questions(a, b);
            case 15 -> desk.claim(a, b, c, d);
            case 16 -> desk.hand(a, b);
            case 17 -> desk.bag(a, b);
            case 18 -> desk.keeping(a, b);
            case 19 -> desk.due(a);
            case 20 -> desk.tick(a);
            case 21 -> desk.reward(a, b, c, d);
            default -> desk.out(a);
        }
    }

    /** Small numbers often, so that many calls are not refused. */
    private static int wild(Random random) {
        return random.nextBoolean() ? random.nextInt(26) - 1 : WILD[random.nextInt(WILD.length)];
    }
}
