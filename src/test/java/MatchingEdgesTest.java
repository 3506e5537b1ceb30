/** "==== 2.", second half: MATCHINGS, GAP, BEST and SURE; a test for each sentence. */
public final class MatchingEdgesTest {
    private static final int NONE = LostDesk.NONE;
    private static final Check CHECK = new Check();

    public static void main(String[] args) {
        matchingOfNothing();
        eachInOneAtMost();
        handedAndGoneAreInNone();
        gapOfEachLoss();
        gapIsNotForThoseHanded();
        bestIsOfLeastCost();
        firstOfSeveral();
        firstOfSeveralAmongFreeFinds();
        noneIsBehindAll();
        noneIsBehindAllOfMany();
        sureWithin();
        sureAgainstOtherPairs();
        sureAgainstAnotherFind();
        CHECK.end();
    }

    private static void matchingOfNothing() {
        Scene scene = new Scene(CHECK, "A MATCHING: pairs of LOSSES and FINDS that CAN be one");
        scene.gives(0, "match").small().gives(0, "match");
        scene.finds(1).gives(0, "match");
        scene.tell("lost", 0, 0, 0, 0, 11, 11).gives(20, "match").refuses(7, "matched", 0);
        scene.losses(1).gives(20, "match").gives(0, "matched", 1);
    }

    private static void eachInOneAtMost() {
        Scene scene = new Scene(CHECK, "that are neither HANDED nor GONE, each in one at most.");
        scene.small().finds(1).losses(2).gives(20, "match").gives(0, "matched", 0).refuses(7, "matched", 1);
        scene.finds(1).gives(0, "match").gives(1, "matched", 1);
        scene.finds(1).gives(0, "match").gives(0, "matched", 0).gives(1, "matched", 1);
    }

    private static void handedAndGoneAreInNone() {
        Scene scene = new Scene(CHECK, "that are neither HANDED nor GONE, each in one at most.");
        scene.small().finds(4).losses(3).tell("bag", 1, 2);
        scene.gives(1, "claim", 0, 1, 1, 1).gives(1, "hand", 0, 1);
        scene.gives(0, "match").gives(0, "matched", 1).gives(3, "matched", 2).refuses(5, "matched", 0);
        scene.gives(2, "tick", 731).gives(40, "match").refuses(7, "matched", 1).refuses(7, "matched", 2);
        scene.finds(1).gives(20, "match").gives(4, "matched", 1).gives(1, "tick", 731).gives(40, "match");
    }

    private static void gapOfEachLoss() {
        Scene scene = new Scene(CHECK, "Its COST: of all its pairs together, and GAP (0 to 100; 20 at first)");
        scene.gives(0, "match").small().losses(1).gives(20, "match").losses(23).gives(480, "match");
        scene.gives(1, "gap", 100).gives(2400, "match").gives(1, "gap", 0).gives(0, "match");
        scene.gives(1, "gap", 7).gives(168, "match");
        scene.refusesEach(2, 0, Numbers.outside(0, 100), "gap", 0);
    }

    private static void gapIsNotForThoseHanded() {
        Scene scene = new Scene(CHECK, "for each LOSS, not HANDED, that is in none.");
        scene.small().finds(2).losses(3).gives(20, "match");
        scene.gives(1, "claim", 0, 1, 1, 1).gives(1, "hand", 0, 1).gives(20, "match");
        scene.gives(1, "claim", 2, 0, 1, 0).gives(1, "hand", 2, 0).gives(20, "match");
        scene.refuses(5, "matched", 2).refuses(7, "matched", 1);
    }

    private static void bestIsOfLeastCost() {
        Scene scene = new Scene(CHECK, "BEST is that of least COST;");
        scene.small().tell("found", 0, 0, 0, 0, 0).tell("lost", 0, 0, 7, 0, 0, 0).gives(9, "match");
        scene.gives(1, "gap", 10).gives(9, "match").gives(0, "matched", 0);
        scene.gives(1, "gap", 8).gives(8, "match").refuses(7, "matched", 0);
        scene.tell("lost", 0, 0, 3, 0, 0, 0).gives(14, "match").gives(0, "matched", 1).refuses(7, "matched", 0);
    }

    private static void firstOfSeveral() {
        Scene scene = new Scene(CHECK, "of several the first: LOSS by LOSS, the lesser FIND");
        scene.small();
        for (int find = 0; find < 24; find++) {
            scene.tell("found", 0, 0, 0, 0, 10);
        }
        scene.losses(24).gives(0, "match");
        for (int loss = 0; loss < 24; loss++) {
            scene.gives(loss, "matched", loss);
        }
    }

    /** LOSS 0 CAN be all 24 at COST 0, LOSS 1 just FINDS 0 and 2: it must leave FIND 0 to LOSS 0. */
    private static void firstOfSeveralAmongFreeFinds() {
        Scene scene = new Scene(CHECK, "of several the first: LOSS by LOSS, the lesser FIND");
        scene.small();
        for (int find = 0; find < 24; find++) {
            scene.tell("found", 0, 0, find == 0 || find == 2 ? 1 : 0, 0, 10);
        }
        scene.losses(1).tell("lost", 0, 0, 1, 0, 0, 10).gives(0, "match").gives(0, "matched", 0).gives(2, "matched", 1);
        scene.gives(0, "sure", 0, 0).gives(0, "sure", 1, 0).gives(0, "matched", 0).gives(2, "matched", 1);
    }

    /** A pair at just GAP costs as much as none, and goes before it, for the first LOSS before the others. */
    private static void noneIsBehindAll() {
        Scene scene = new Scene(CHECK, "(none: behind all).");
        scene.small().tell("found", 0, 0, 0, 0, 0).tell("gap", 9);
        scene.tell("lost", 0, 0, 7, 0, 0, 0).tell("lost", 0, 0, 7, 0, 0, 0).gives(18, "match");
        scene.gives(0, "matched", 0).refuses(7, "matched", 1);
        scene.tell("found", 0, 0, 0, 0, 0).gives(18, "match").gives(0, "matched", 0).gives(1, "matched", 1);
        scene.tell("gap", 0).tell("lost", 0, 0, 0, 0, 0, 0).gives(0, "match");
        scene.gives(0, "matched", 2).refuses(7, "matched", 0).refuses(7, "matched", 1);
    }

    /** Every MATCHING of 24 LOSSES and 24 FINDS costs 0 here, that of no pairs too. */
    private static void noneIsBehindAllOfMany() {
        Scene scene = new Scene(CHECK, "(none: behind all).");
        scene.small().finds(24).losses(24).tell("gap", 0).gives(0, "match");
        for (int loss = 0; loss < 24; loss++) {
            scene.gives(loss, "matched", loss).gives(0, "sure", loss, 0);
        }
    }

    /** Without its pair a LOSS is in none at worst, so GAP tells within what it can be SURE. */
    private static void sureWithin() {
        Scene scene = new Scene(CHECK, "A pair of the BEST is SURE within s (0 to 1,000),");
        scene.small().finds(1).losses(1).tell("gap", 100);
        scene.gives(1, "sure", 0, 0).gives(1, "sure", 0, 99).gives(0, "sure", 0, 100).gives(0, "sure", 0, 1000);
        scene.refusesEach(2, 1, Numbers.outside(0, 1000), "sure", 0, 0);
        scene.tell("gap", 0).gives(0, "sure", 0, 0).gives(0, "matched", 0);
    }

    private static void sureAgainstOtherPairs() {
        Scene scene = new Scene(CHECK, "if all MATCHINGS without it have a COST above that of BEST and s.");
        scene.small().tell("found", 0, 0, 3, 0, 0).tell("found", 0, 0, 1, 0, 0);
        scene.tell("lost", 0, 0, 3, 0, 0, 0).tell("lost", 0, 0, 3, 0, 0, 0);
        scene.gives(3, "match").gives(0, "sure", 0, 0).gives(0, "sure", 1, 0).gives(0, "matched", 0);
        scene.tell("found", 0, NONE, 3, 0, 0).gives(2, "match").gives(2, "matched", 1);
        scene.gives(0, "sure", 1, 0).gives(0, "sure", 0, 0);
        scene.tell("lost", 0, 0, 65535, 0, 0, 0).gives(22, "match");
    }

    private static void sureAgainstAnotherFind() {
        Scene scene = new Scene(CHECK, "if all MATCHINGS without it have a COST above that of BEST and s.");
        scene.small().tell("found", 0, 0, 3, 0, 0).tell("found", 0, 0, 1, 0, 0).tell("lost", 0, 0, 3, 0, 0, 0);
        scene.gives(0, "matched", 0).gives(1, "sure", 0, 2).gives(0, "sure", 0, 3);
    }
}
