/** "==== 3.", second half: BAGS, KEEPING, DUE, GONE and REWARDS; a test for each sentence. */
public final class KeepingAndRewardsEdgesTest {
    private static final int NONE = LostDesk.NONE;
    private static final Check CHECK = new Check();

    public static void main(String[] args) {
        bagIsHandedTogether();
        bagIsGoneTogether();
        bagOfAll();
        lossIsHandedAlone();
        keepingOfAKind();
        keepingOfAFind();
        dueOfAFind();
        dueOfABag();
        goneAreThoseKept();
        goneAsLateAsCanBe();
        goneOnceTickIsTold();
        rewardOfPennies();
        rewardOfShares();
        rewardOfFinders();
        rewardIsRoundedDown();
        penniesLeft();
        CHECK.end();
    }

    private static void bagIsHandedTogether() {
        Scene scene = new Scene(CHECK, "BAGS: FINDS may be put together with others: those of one BAG, also over others,");
        scene.small().finds(6).losses(1).gives(1, "bag", 5, 4).gives(1, "bag", 2, 3).gives(1, "bag", 4, 3);
        scene.refuses(4, "bag", 2, 5).refuses(4, "bag", 5, 2).gives(2, "told", 5, 6);
        scene.gives(1, "claim", 0, 5, 1, 1).gives(1, "hand", 0, 5);
        for (int find = 2; find < 6; find++) {
            scene.gives(1, "told", find, 4).gives(0, "told", find, 5);
        }
        scene.gives(0, "told", 0, 4).gives(0, "told", 1, 4).gives(NONE, "told", 1, 5);
    }

    private static void bagIsGoneTogether() {
        Scene scene = new Scene(CHECK, "are HANDED and GONE together, if one is");
        scene.small().finds(2).tell("found", 0, 0, 0, 0, 500).tell("bag", 0, 2);
        scene.gives(1, "tick", 731).gives(0, "told", 0, 4).gives(2, "told", 1, 4);
        scene.gives(0, "tick", 1220).gives(2, "tick", 1221).gives(2, "told", 0, 4).gives(2, "told", 2, 4);
        scene.refuses(4, "bag", 0, 2).refuses(5, "bag", 0, 1);
    }

    private static void bagOfAll() {
        Scene scene = new Scene(CHECK, "are HANDED and GONE together, if one is");
        scene.small().finds(24);
        for (int find = 23; find > 0; find--) {
            scene.gives(1, "bag", find, find - 1);
        }
        scene.gives(0, "told", 23, 6).refuses(4, "bag", 0, 23).gives(0, "tick", 730).gives(24, "tick", 731);
    }

    private static void lossIsHandedAlone() {
        Scene scene = new Scene(CHECK, "(a LOSS is HANDED one by one).");
        scene.small().finds(3).losses(2).tell("bag", 0, 1).tell("claim", 0, 0, 1, 0).tell("claim", 1, 1, 1, 1);
        scene.gives(1, "hand", 0, 0).gives(2, "matched", 1).refuses(5, "hand", 1, 1);
        scene.gives(1, "claim", 1, 2, 1, 0).gives(1, "hand", 1, 2).gives(1, "told", 2, 5).gives(0, "told", 1, 5);
    }

    private static void keepingOfAKind() {
        Scene scene = new Scene(CHECK, "KEEPING of a KIND: days (1 to 1,000), or none;");
        scene.small().tell("found", 0, 0, 0, 0, 0);
        scene.gives(1, "keeping", 0, 1).gives(24, "due", 0).gives(1, "keeping", 0, 1000).gives(24000, "due", 0);
        scene.gives(1, "keeping", 0, NONE).gives(720, "due", 0).gives(1, "keeping", 0, 2);
        scene.refusesEach(2, 1, Numbers.outsideOrNone(1, 1000), "keeping", 0, 1);
    }

    private static void keepingOfAFind() {
        Scene scene = new Scene(CHECK, "of a FIND it is that of the first of its KIND's LINE that has one, else 30.");
        scene.town().tell("found", 2, 0, 0, 0, 0).tell("found", 3, 0, 0, 0, 0).gives(720, "due", 0);
        scene.tell("keeping", 0, 50).gives(1200, "due", 0).tell("keeping", 1, 2).gives(48, "due", 0);
        scene.tell("keeping", 2, 3).gives(72, "due", 0).gives(1200, "due", 1).tell("keeping", 0, 1).gives(72, "due", 0);
        scene.tell("keeping", 2, NONE).gives(48, "due", 0).tell("keeping", 1, NONE).gives(24, "due", 0);
        scene.tell("keeping", 0, NONE).gives(720, "due", 0).gives(720, "due", 1);
    }

    private static void dueOfAFind() {
        Scene scene = new Scene(CHECK, "each its tick and 24 for each day of its KEEPING.");
        scene.town().tell("keeping", 3, 1).tell("keeping", 0, 1000);
        scene.tell("found", 3, 0, 0, 0, 0).tell("found", 0, 0, 0, 0, 100000).gives(24, "due", 0).gives(124000, "due", 1);
    }

    private static void dueOfABag() {
        Scene scene = new Scene(CHECK, "DUE of a BAG: the greatest of what its FINDS have,");
        scene.town().tell("keeping", 3, 1).tell("found", 3, 0, 0, 0, 700).tell("found", 0, 0, 0, 0, 0);
        scene.tell("found", 0, 0, 0, 0, 5).gives(724, "due", 0).gives(720, "due", 1).tell("bag", 1, 0);
        scene.gives(724, "due", 0).gives(724, "due", 1).tell("bag", 1, 2).gives(725, "due", 0).gives(725, "due", 2);
        scene.tell("keeping", 3, 2).gives(748, "due", 2);
    }

    private static void goneAreThoseKept() {
        Scene scene = new Scene(CHECK, "GONE are KEPT ones with a DUE ahead of the tick that it is,");
        scene.small().finds(3).losses(1).tell("claim", 0, 1, 1, 1).tell("hand", 0, 1);
        scene.gives(0, "tick", 729).gives(0, "tick", 730).gives(0, "told", 0, 4);
        scene.gives(2, "tick", 731).gives(2, "told", 0, 4).gives(1, "told", 1, 4).gives(0, "tick", 200000);
    }

    private static void goneAsLateAsCanBe() {
        Scene scene = new Scene(CHECK, "GONE are KEPT ones with a DUE ahead of the tick that it is,");
        scene.small().tell("keeping", 0, 1000).tell("found", 0, 0, 0, 0, 100000);
        scene.gives(0, "tick", 124000).gives(0, "told", 0, 4).gives(1, "tick", 124001);
    }

    private static void goneOnceTickIsTold() {
        Scene scene = new Scene(CHECK, "once it is told.");
        scene.small().gives(0, "tick", 5000).tell("found", 0, 0, 0, 0, 0).gives(0, "told", 0, 4).gives(720, "due", 0);
        scene.gives(1, "alike", 0, 0).losses(1).gives(0, "matched", 0);
        scene.gives(1, "tick", 5000).gives(2, "told", 0, 4);
        scene.tell("found", 0, 0, 0, 0, 4500).tell("keeping", 0, 1).gives(4524, "due", 1).gives(0, "told", 1, 4);
        scene.gives(1, "tick", 5001).gives(2, "told", 1, 4).tell("keeping", 0, 1000).gives(0, "tick", 5001);
        scene.gives(2, "told", 1, 4);
    }

    private static void rewardOfPennies() {
        Scene scene = new Scene(CHECK, "REWARD for a FIND: pennies (0 to 1,000,000)");
        scene.small().finds(1).gives(2, "reward", 0, 0, 0x6401, 0).out(0, 0);
        scene.gives(1, "reward", 0, 1000000, 100, 0).out(1000000).gives(2, "reward", 0, 1, 0x0101, 0).out(1, 0);
        scene.refusesEach(2, 1, Numbers.outside(0, 1000000), "reward", 0, 0, 1, 0);
    }

    private static void rewardOfShares() {
        Scene scene = new Scene(CHECK, "parted by shares (1 to 100)");
        scene.small().finds(1).gives(2, "reward", 0, 101, 0x0164, 0).out(100, 1);
        scene.gives(2, "reward", 0, 101, 0x6401, 0).out(1, 100);
        for (int k = 0; k < 4; k++) {
            for (int share : new int[] {101, 127, 128, 200, 255}) {
                int others = 0x01010101 & ~(255 << 8 * k);
                scene.refuses(2, "reward", 0, 1, others | share << 8 * k, 0);
                scene.refuses(2, "reward", 0, 1, 0x01010101, others | share << 8 * k);
            }
        }
        scene.refuses(2, "reward", 0, 1, -1, -1).refuses(2, "reward", 0, 1, Integer.MIN_VALUE, 0);
    }

    private static void rewardOfFinders() {
        Scene scene = new Scene(CHECK, "of 1 to 8 finders:");
        scene.small().finds(1).gives(1, "reward", 0, 9, 3, 0).out(9);
        scene.gives(4, "reward", 0, 8, 0x02020202, 0).out(2, 2, 2, 2);
        scene.gives(5, "reward", 0, 10, 0x02020202, 2).out(2, 2, 2, 2, 2);
        scene.gives(8, "reward", 0, 8, 0x02020202, 0x02020202).out(1, 1, 1, 1, 1, 1, 1, 1);
        scene.refuses(2, "reward", 0, 1, 0, 0);
    }

    private static void rewardIsRoundedDown() {
        Scene scene = new Scene(CHECK, "each has the amount times the share by all, rounded down;");
        scene.small().finds(1).gives(3, "reward", 0, 100, 0x010202, 0).out(40, 40, 20);
        scene.gives(3, "reward", 0, 999, 0x643201, 0).out(7, 331, 661);
        scene.gives(8, "reward", 0, 1000000, 0x64646464, 0x64646464);
        scene.out(125000, 125000, 125000, 125000, 125000, 125000, 125000, 125000);
        scene.gives(8, "reward", 0, 999999, 0x64646464, 0x01646464);
        scene.out(142654, 142654, 142653, 142653, 142653, 142653, 142653, 1426);
    }

    private static void penniesLeft() {
        Scene scene = new Scene(CHECK, "of pennies left the first ones have one each.");
        scene.small().finds(1).gives(8, "reward", 0, 7, 0x01010101, 0x01010101).out(1, 1, 1, 1, 1, 1, 1, 0);
        scene.gives(8, "reward", 0, 8, 0x01010101, 0x01010101).out(1, 1, 1, 1, 1, 1, 1, 1);
        scene.gives(8, "reward", 0, 9, 0x01010101, 0x01010101).out(2, 1, 1, 1, 1, 1, 1, 1);
        scene.gives(2, "reward", 0, 1, 0x6401, 0).out(1, 0);
        scene.gives(3, "reward", 0, 2, 0x640101, 0).out(1, 0, 1);
    }
}
