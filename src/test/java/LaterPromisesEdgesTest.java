/** Promises 13 to 25: each sentence with what it says in brackets, a test for each. */
public final class LaterPromisesEdgesTest {
    private static final int NONE = LostDesk.NONE;
    private static final Check CHECK = new Check();

    public static void main(String[] args) {
        match();
        matched();
        sure();
        alike();
        questions();
        claim();
        claimAnswersOthers();
        claimAgain();
        hand();
        bag();
        keeping();
        due();
        tick();
        tickIsNotAhead();
        reward();
        rewardSharesInOrder();
        rewardMakesOut();
        wrongRewards();
        out();
        CHECK.end();
    }

    private static void match() {
        Scene scene = new Scene(CHECK, "COST of BEST.").busy();
        scene.gives(22, "match").gives(22, "match").tell("gap", 3).gives(9, "match").gives(1, "sure", 1, 0).gives(9, "match");
        new Scene(CHECK, "COST of BEST.").gives(0, "match").small().gives(0, "match").losses(24).gives(480, "match");
    }

    private static void matched() {
        Scene scene = new Scene(CHECK, "The FIND of a LOSS in BEST (1; 5: the LOSS is HANDED; 7: it has none).").busy();
        scene.gives(2, "matched", 0).gives(1, "matched", 1).gives(0, "matched", 2);
        scene.refusesEach(1, 0, Numbers.noneOf(5), "matched", 0).refuses(5, "matched", 3).refuses(7, "matched", 4);
        scene.tell("gap", 1).refuses(7, "matched", 0).refuses(7, "matched", 1).gives(0, "matched", 2);
        scene.tell("tick", 200000).refuses(7, "matched", 2).refuses(5, "matched", 3);
    }

    private static void sure() {
        Scene scene = new Scene(CHECK, "Whether the pair of a LOSS in BEST is SURE within s: 1 or 0 (1; 2; 5; 7: it has none).");
        scene.busy().gives(1, "sure", 0, 0).gives(0, "sure", 0, 1).gives(1, "sure", 1, 6).gives(0, "sure", 1, 7);
        scene.gives(0, "sure", 1, 1000).gives(2, "matched", 0).gives(22, "match");
        scene.refusesEach(1, 0, Numbers.noneOf(5), "sure", 0, 0).refusesEach(2, 1, Numbers.outside(0, 1000), "sure", 0, 0);
        scene.refuses(5, "sure", 3, 0).refuses(5, "sure", 3, 1000).refuses(7, "sure", 4, 0).refuses(7, "sure", 4, 1000);
    }

    private static void alike() {
        Scene scene = new Scene(CHECK, "How many are ALIKE with a KEPT FIND on MARKS (1; 2; 5).").busy();
        scene.gives(4, "alike", 0, 0).gives(3, "alike", 0, 5).gives(1, "alike", 1, 65535).gives(4, "alike", 1, 1);
        scene.refusesEach(1, 0, Numbers.noneOf(7), "alike", 0, 0).refusesEach(2, 1, Numbers.outside(0, 65535), "alike", 0, 0);
        scene.refuses(5, "alike", 3, 0).refuses(5, "alike", 4, 65535).refuses(5, "alike", 5, 1);
    }

    private static void questions() {
        Scene scene = new Scene(CHECK, "QUESTIONS on a KEPT FIND for k, as a sum (1; 2; 5; 7: not even all MARKS do).").busy();
        scene.gives(2, "questions", 0, 3).gives(0, "questions", 0, 4).gives(2, "questions", 1, 1).gives(0, "questions", 6, 24);
        scene.refuses(7, "questions", 0, 1).refuses(7, "questions", 0, 2).refuses(7, "questions", 6, 2);
        scene.refusesEach(1, 0, Numbers.noneOf(7), "questions", 0, 1);
        scene.refusesEach(2, 1, Numbers.outside(1, 24), "questions", 0, 1);
        scene.refuses(5, "questions", 3, 1).refuses(5, "questions", 4, 24).refuses(5, "questions", 5, 1);
    }

    private static void claim() {
        Scene scene = new Scene(CHECK, "A CLAIM: 1 if it is RIGHT, 0 else (1; 2: MARKS asked, none or above 65,535;").busy();
        scene.refusesEach(1, 0, Numbers.noneOf(5), "claim", 0, 1, 1, 1).refusesEach(1, 1, Numbers.noneOf(7), "claim", 0, 1, 1, 1);
        scene.refusesEach(2, 2, Numbers.outside(1, 65535), "claim", 0, 1, 1, 0);
        scene.gives(1, "claim", 0, 1, 65535, 3).gives(0, "claim", 0, 2, 65535, 65535).gives(1, "claim", 0, 6, 32768, 0);
    }

    private static void claimAnswersOthers() {
        Scene scene = new Scene(CHECK, "answered others than those;").busy();
        for (int answered : new int[] {1, 8, 9, 65535, 65536, 65538, -1, Integer.MIN_VALUE, Integer.MAX_VALUE}) {
            scene.refuses(2, "claim", 0, 1, 6, answered);
        }
        scene.gives(1, "claim", 0, 1, 6, 2).gives(0, "claim", 1, 1, 6, 6).gives(0, "claim", 2, 1, 6, 0);
    }

    /** FIND 3 is GONE, FIND 4 and LOSS 3 are HANDED; but for that each could be one with the other of its pair. */
    private static void claimAgain() {
        Scene scene = new Scene(CHECK, "4: it has CLAIMED it; 5: either; 6).").busy();
        scene.refuses(4, "claim", 0, 0, 1, 1).refuses(4, "claim", 0, 0, 2, 0).refuses(4, "claim", 2, 2, 1, 1);
        scene.refuses(4, "claim", 3, 4, 9, 9).gives(3, "cost", 0, 4).refuses(5, "claim", 0, 4, 1, 1);
        scene.gives(7, "cost", 3, 0).refuses(5, "claim", 3, 0, 1, 1).refuses(5, "claim", 3, 3, 1, 1);
        scene.tell("lost", 3, 5, 0, 0, 0, 90).gives(0, "cost", 5, 3).refuses(5, "claim", 5, 3, 1, 1);
        scene.refuses(6, "claim", 4, 0, 1, 1).refuses(6, "claim", 5, 0, 1, 1);
    }

    private static void hand() {
        Scene scene = new Scene(CHECK, "HANDED (1; 5: either; 7: no RIGHT CLAIM; 8).").busy();
        scene.refusesEach(1, 0, Numbers.noneOf(5), "hand", 1, 0).refusesEach(1, 1, Numbers.noneOf(7), "hand", 1, 0);
        scene.refuses(5, "hand", 3, 4).refuses(5, "hand", 3, 0).refuses(5, "hand", 1, 5).refuses(5, "hand", 1, 3);
        scene.refuses(7, "hand", 1, 1).refuses(7, "hand", 2, 2).refuses(7, "hand", 0, 6).refuses(8, "hand", 0, 0);
        scene.gives(1, "hand", 1, 0).gives(1, "told", 0, 4).gives(1, "told", 0, 5).gives(0, "told", 6, 4);
    }

    private static void bag() {
        Scene scene = new Scene(CHECK, "Two KEPT FINDS are of one BAG (1; 4: they are, like ones too; 5).").busy();
        scene.refusesEach(1, 0, Numbers.noneOf(7), "bag", 0, 0).refusesEach(1, 1, Numbers.noneOf(7), "bag", 0, 0);
        scene.refuses(4, "bag", 1, 2).refuses(4, "bag", 2, 1).refuses(4, "bag", 5, 4);
        for (int find = 0; find < 7; find++) {
            scene.refuses(4, "bag", find, find);
        }
        scene.refuses(5, "bag", 0, 3).refuses(5, "bag", 3, 0).refuses(5, "bag", 4, 1).refuses(5, "bag", 2, 5);
        scene.gives(1, "bag", 6, 2).refuses(4, "bag", 1, 6).gives(1, "bag", 0, 6).refuses(4, "bag", 1, 0);
    }

    private static void keeping() {
        Scene scene = new Scene(CHECK, "KEEPING of a KIND, or (NONE) none (1; 2).").busy();
        scene.refusesEach(1, 0, Numbers.noneOf(4), "keeping", 0, 1);
        scene.refusesEach(2, 1, Numbers.outsideOrNone(1, 1000), "keeping", 3, 1).gives(114, "due", 3);
        scene.gives(1, "keeping", 3, NONE).gives(810, "due", 3).gives(1, "keeping", 3, NONE).gives(1, "keeping", 3, 1000);
        scene.gives(24090, "due", 3);
    }

    private static void due() {
        Scene scene = new Scene(CHECK, "DUE of a FIND's BAG (1).").busy();
        scene.gives(820, "due", 0).gives(850, "due", 1).gives(850, "due", 2).gives(114, "due", 3).gives(860, "due", 4);
        scene.gives(860, "due", 5).refusesEach(1, 0, Numbers.noneOf(7), "due", 0);
    }

    private static void tick() {
        Scene scene = new Scene(CHECK, "It is a tick (0 to 200,000): how many are GONE by it");
        scene.refusesEach(2, 0, Numbers.outside(0, 200000), "tick", 0).gives(0, "tick", 0).gives(0, "tick", 200000);
        scene.refusesEach(2, 0, Numbers.outside(200000, 200000), "tick", 0).gives(0, "tick", 200000);
        scene.small().finds(24).gives(24, "tick", 200000).gives(0, "tick", 200000);
    }

    /** A refused tick lets nothing be GONE, and the tick stays what it was. */
    private static void tickIsNotAhead() {
        Scene scene = new Scene(CHECK, "(2: it is ahead of that which it is, too).").busy();
        scene.refuses(2, "tick", 149).refuses(2, "tick", 0).refuses(2, "tick", 200001).gives(0, "tick", 150);
        scene.tell("found", 3, 0, 0, 0, 0).refuses(2, "tick", 149).gives(0, "told", 7, 4).gives(1, "tick", 150);
        LostDesk desk = new LostDesk();
        desk.tick(150);
        CHECK.refused(desk, "tick(200001)", desk.tick(200001), 2);
        CHECK.refused(desk, "tick(149)", desk.tick(149), 2);
        CHECK.given(desk, "tick(150)", desk.tick(150), 0);
    }

    private static void reward() {
        Scene scene = new Scene(CHECK, "A REWARD: pennies of a FIND; shares are told by the bytes of two numbers,").busy();
        scene.refusesEach(1, 0, Numbers.noneOf(7), "reward", 0, 1, 1, 0).out(34, 33, 33);
        scene.gives(1, "reward", 3, 5, 7, 0).out(5).gives(2, "reward", 4, 1000000, 0x0101, 0).out(500000, 500000);
        scene.gives(1, "reward", 6, 0, 1, 0).out(0);
    }

    private static void rewardSharesInOrder() {
        Scene scene = new Scene(CHECK, "the lowest byte of the first one for finder 0, and so on, 0 behind the last:").busy();
        scene.gives(8, "reward", 0, 36, 0x04030201, 0x08070605).out(1, 2, 3, 4, 5, 6, 7, 8);
        scene.gives(4, "reward", 0, 10, 0x04030201, 0).out(1, 2, 3, 4).gives(5, "reward", 0, 15, 0x04030201, 5).out(1, 2, 3, 4, 5);
        scene.gives(1, "reward", 0, 10, 1, 0).out(10).gives(8, "reward", 0, 107, 0x01010101, 0x64010101);
        scene.out(1, 1, 1, 1, 1, 1, 1, 100);
    }

    private static void rewardMakesOut() {
        Scene scene = new Scene(CHECK, "OUT is what each one has: how many finders").busy();
        scene.out(34, 33, 33).gives(8, "reward", 0, 8, 0x01010101, 0x01010101).out(1, 1, 1, 1, 1, 1, 1, 1);
        scene.gives(1, "reward", 0, 8, 1, 0).out(8).gives(2, "reward", 0, 0, 0x0101, 0).out(0, 0);
    }

    private static void wrongRewards() {
        Scene scene = new Scene(CHECK, "(1; 2: pennies, a share above 100, none at all, one behind a 0).").busy();
        scene.refusesEach(2, 1, Numbers.outside(0, 1000000), "reward", 0, 1, 1, 0);
        scene.refuses(2, "reward", 0, 1, 101, 0).refuses(2, "reward", 0, 1, 255, 0).refuses(2, "reward", 0, 1, 0x65640101, 0);
        scene.refuses(2, "reward", 0, 1, 0x80010101, 0).refuses(2, "reward", 0, 1, 0x01010101, 0x65010101);
        scene.refuses(2, "reward", 0, 1, 0x01010101, 0xff010101).refuses(2, "reward", 0, 0, 0, 0);
        scene.refuses(2, "reward", 0, 1, 0x0100, 0).refuses(2, "reward", 0, 1, 0x010001, 0);
        scene.refuses(2, "reward", 0, 1, 0x01000101, 0).refuses(2, "reward", 0, 1, 0x010101, 1);
        scene.refuses(2, "reward", 0, 1, 0, 1).refuses(2, "reward", 0, 1, 0x01010101, 0x0100);
        scene.refuses(2, "reward", 0, 1, 0x01010101, 0x01000101).refuses(2, "reward", 0, 1, 0x01010101, 0x01000000);
        scene.out(34, 33, 33);
    }

    private static void out() {
        Scene scene = new Scene(CHECK, "Number k of OUT; NONE if there is none such.").out().busy().out(34, 33, 33);
        for (int k : Numbers.noneOf(3)) {
            scene.gives(NONE, "out", k);
        }
        scene.gives(8, "reward", 0, 36, 0x04030201, 0x08070605).gives(8, "out", 7).gives(NONE, "out", 8).gives(1, "out", 0);
        scene.gives(1, "reward", 0, 36, 1, 0).gives(36, "out", 0).gives(NONE, "out", 1).gives(NONE, "out", 7);
    }
}
