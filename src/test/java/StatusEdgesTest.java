/** "==== 4.": what each STATUS says, which of two holds, and what a call with one leaves; a test for each sentence. */
public final class StatusEdgesTest {
    private static final int NONE = LostDesk.NONE;
    private static final Check CHECK = new Check();

    public static void main(String[] args) {
        orderOfKindsAndColours();
        orderOfPlaces();
        orderOfFinds();
        orderOfLosses();
        orderOfMatches();
        orderOfMarks();
        orderOfClaims();
        orderOfHanding();
        orderOfBagsAndDays();
        noSuch();
        cannotBe();
        tooMany();
        soAlready();
        handedOrGone();
        cannotBeOne();
        noneSuch();
        asGoodAClaim();
        zeroElse();
        nothingButStatus();
        refusedOneByOne();
        noStatusOfTheirOwn();
        CHECK.end();
    }

    private static Scene order() {
        return new Scene(CHECK, "STATUS of a call is the first of these that holds:");
    }

    private static Scene fullKinds(Scene scene) {
        scene.small();
        for (int kind = 1; kind < 40; kind++) {
            scene.tell("kind", 0);
        }
        return scene;
    }

    private static void orderOfKindsAndColours() {
        fullKinds(order()).refuses(1, "kind", NONE).refuses(1, "kind", 40).refuses(3, "kind", 0);
        order().refuses(2, "near", 3, 3, 0).refuses(2, "near", -1, 12, 0).refuses(4, "near", 3, 4, 0);
        order().refuses(1, "keeping", 0, 0).small().refuses(1, "keeping", 1, 1001).refuses(2, "keeping", 0, 1001);
    }

    private static void orderOfPlaces() {
        Scene scene = order().tell("place").tell("place");
        scene.refuses(1, "way", 0, 0, 0).refuses(1, "way", 0, 2, 1001).refuses(1, "way", 1, 1, NONE);
        scene.refuses(1, "way", 2, 0, NONE).refuses(2, "way", 0, 1, -2).refuses(7, "way", 0, 1, NONE);
        scene.refuses(1, "far", 0, 2).refuses(1, "far", 2, 2).refuses(7, "far", 0, 1);
    }

    private static void orderOfFinds() {
        Scene scene = order().small().finds(24);
        scene.refuses(1, "found", 1, 12, 0, 0, 0).refuses(1, "found", 0, 0, -1, 1, 0).refuses(1, "found", 1, 0, 0, 0, 0);
        scene.refuses(2, "found", 0, 12, 0, 0, 0).refuses(2, "found", 0, 0, 65536, 0, 0);
        scene.refuses(2, "found", 0, 0, 0, 0, 100001).refuses(3, "found", 0, 0, 0, 0, 0);
        scene.refuses(1, "told", 24, 7).refuses(2, "told", 23, 7).refuses(1, "reward", 24, -1, 0, 0);
    }

    private static void orderOfLosses() {
        Scene scene = order().small().losses(24);
        scene.refuses(1, "lost", 1, 12, 0, 0, 0, 0).refuses(1, "lost", 0, 0, 0, 1, 5, 4).refuses(1, "lost", 1, 0, 0, 0, 0, 0);
        scene.refuses(2, "lost", 0, 12, 0, 0, 0, 0).refuses(2, "lost", 0, 0, 65536, 0, 0, 0);
        scene.refuses(2, "lost", 0, 0, 0, 0, 5, 4).refuses(2, "lost", 0, 0, 0, 0, 0, 100001);
        scene.refuses(3, "lost", 0, 0, 0, 0, 0, 0);
    }

    /** LOSS 3 is HANDED and so in no pair; LOSS 4 is in none. */
    private static void orderOfMatches() {
        Scene scene = order().busy();
        scene.refuses(1, "cost", 5, 0).refuses(1, "cost", 4, 7).refuses(6, "cost", 4, 0);
        scene.refuses(1, "matched", 5).refuses(5, "matched", 3).refuses(7, "matched", 4);
        scene.refuses(1, "sure", 5, -1).refuses(2, "sure", 3, -1).refuses(2, "sure", 4, 1001);
        scene.refuses(5, "sure", 3, 0).refuses(7, "sure", 4, 0);
    }

    /** FIND 7 is like FIND 4, which is HANDED; FIND 0 has others with like MARKS. */
    private static void orderOfMarks() {
        Scene scene = order().busy();
        scene.refuses(1, "alike", 7, -1).refuses(2, "alike", 3, 65536).refuses(2, "alike", 4, -1).refuses(5, "alike", 4, 0);
        scene.refuses(1, "questions", 7, 0).refuses(2, "questions", 4, 25).refuses(2, "questions", 0, 0);
        scene.refuses(7, "questions", 0, 1).tell("found", 0, 0, 9, 0, 110).refuses(5, "questions", 4, 1);
    }

    private static void orderOfClaims() {
        Scene scene = order().busy();
        scene.refuses(1, "claim", 5, 0, 0, 0).refuses(1, "claim", 0, 7, 1, 2);
        scene.refuses(2, "claim", 0, 0, 0, 0).refuses(2, "claim", 3, 4, 1, 2).refuses(2, "claim", 3, 0, 65536, 0);
        scene.refuses(2, "claim", 1, 3, 1, 3).refuses(2, "claim", 4, 0, -1, 0);
        scene.refuses(4, "claim", 3, 4, 1, 1).refuses(5, "claim", 4, 4, 1, 1).refuses(5, "claim", 4, 3, 1, 1);
        scene.refuses(5, "claim", 3, 3, 1, 1).refuses(6, "claim", 4, 0, 1, 1);
        scene.tell("way", 0, 1, NONE).refuses(6, "cost", 1, 0).refuses(4, "claim", 1, 0, 5, 5);
    }

    private static void orderOfHanding() {
        Scene scene = order().busy();
        scene.refuses(1, "hand", 5, 4).refuses(1, "hand", 3, 7).refuses(5, "hand", 3, 4).refuses(5, "hand", 3, 0);
        scene.refuses(5, "hand", 2, 3).refuses(7, "hand", 2, 0).refuses(7, "hand", 4, 0).refuses(8, "hand", 0, 0);
        Scene away = order().small().finds(2).losses(2).tell("claim", 0, 1, 1, 1).tell("claim", 1, 1, 1, 1);
        away.refuses(8, "hand", 0, 1).tell("tick", 731).refuses(5, "hand", 0, 1);
    }

    private static void orderOfBagsAndDays() {
        Scene scene = order().busy();
        scene.refuses(1, "bag", 7, 7).refuses(1, "bag", 3, 7).refuses(1, "bag", -1, 4);
        scene.refuses(4, "bag", 4, 5).refuses(4, "bag", 3, 3).refuses(5, "bag", 3, 4);
        scene.refuses(1, "due", 7).refuses(2, "tick", 149).refuses(2, "tick", -1);
        scene.refuses(1, "reward", 7, 1000001, 0, 0).refuses(2, "reward", 3, 1000001, 0, 0);
    }

    private static void noSuch() {
        Scene scene = new Scene(CHECK, "1 no such KIND, PLACE, FIND, LOSS.").busy();
        scene.refusesEach(1, 0, Numbers.noneOf(4), "kind", 0).refusesEach(1, 0, Numbers.noneOf(4), "keeping", 0, 1);
        scene.refusesEach(1, 0, Numbers.noneOf(4), "far", 0, 0).refusesEach(1, 1, Numbers.noneOf(4), "far", 0, 0);
        scene.refusesEach(1, 0, Numbers.noneOf(7), "due", 0).refusesEach(1, 0, Numbers.noneOf(5), "matched", 0);
    }

    private static void cannotBe() {
        Scene scene = new Scene(CHECK, "2 a number that can't be.").busy();
        scene.refusesEach(2, 0, Numbers.outside(0, 100), "gap", 0).refusesEach(2, 0, Numbers.outside(150, 200000), "tick", 0);
        scene.refusesEach(2, 1, Numbers.outside(0, 6), "told", 0, 0);
    }

    private static void tooMany() {
        fullKinds(new Scene(CHECK, "3 one too many.")).finds(24).losses(24).refuses(3, "kind", 0)
            .refuses(3, "found", 0, 0, 0, 0, 0).refuses(3, "lost", 0, 0, 0, 0, 0, 0);
        Scene scene = new Scene(CHECK, "3 one too many.");
        for (int place = 0; place < 20; place++) {
            scene.tell("place");
        }
        scene.refuses(3, "place");
    }

    private static void soAlready() {
        Scene scene = new Scene(CHECK, "4 it is so already.").busy();
        scene.refuses(4, "near", 0, 1, 1).refuses(4, "near", 1, 0, 1).refuses(4, "near", 0, 2, 0);
        scene.refuses(4, "claim", 0, 0, 1, 1).refuses(4, "claim", 2, 2, 1, 1).refuses(4, "bag", 2, 1);
        // Of these the document tells no STATUS 4.
        scene.gives(1, "gap", 15).gives(1, "way", 0, 1, 10).gives(1, "keeping", 3, 1).gives(1, "keeping", 0, NONE);
        scene.gives(0, "tick", 150);
    }

    private static void handedOrGone() {
        Scene scene = new Scene(CHECK, "5 it is HANDED or GONE.").busy();
        scene.refuses(5, "alike", 3, 0).refuses(5, "alike", 5, 0).refuses(5, "questions", 3, 24);
        scene.refuses(5, "claim", 0, 3, 1, 1).refuses(5, "claim", 0, 5, 1, 1).refuses(5, "claim", 3, 0, 1, 1);
        scene.refuses(5, "hand", 0, 4).refuses(5, "bag", 0, 4).refuses(5, "bag", 3, 0);
        scene.refuses(5, "matched", 3).refuses(5, "sure", 3, 0);
    }

    private static void cannotBeOne() {
        Scene scene = new Scene(CHECK, "6 they CAN'T be one.").busy();
        for (int find = 0; find < 7; find++) {
            scene.refuses(6, "cost", 4, find);
        }
        scene.refuses(6, "claim", 4, 0, 1, 1).refuses(6, "claim", 4, 6, 1, 1);
    }

    private static void noneSuch() {
        Scene scene = new Scene(CHECK, "7 there is none such.").busy();
        scene.refuses(7, "way", 0, 2, NONE).refuses(7, "far", 0, 3).refuses(7, "matched", 4).refuses(7, "sure", 4, 0);
        scene.refuses(7, "questions", 0, 2).refuses(7, "hand", 0, 1).refuses(7, "hand", 2, 2);
    }

    private static void asGoodAClaim() {
        Scene scene = new Scene(CHECK, "8 another LOSS has as good a CLAIM.").busy();
        scene.refuses(8, "hand", 0, 0).gives(1, "hand", 1, 0).refuses(5, "hand", 0, 0);
    }

    private static void zeroElse() {
        Scene scene = new Scene(CHECK, "0 else.").busy();
        scene.gives(4, "kind", 0).gives(1, "near", 5, 6, 1).gives(4, "place").gives(1, "way", 4, 0, 1).gives(1, "far", 0, 4);
        scene.gives(7, "found", 4, 0, 0, 4, 0).gives(5, "lost", 4, 0, 0, 4, 0, 0).gives(0, "cost", 5, 7);
        scene.gives(NONE, "told", 1, 1).gives(NONE, "told", 3, 5).gives(2, "told", 3, 4).gives(1, "gap", 0);
        scene.gives(1, "alike", 7, 65535).gives(0, "questions", 7, 24).gives(1, "claim", 5, 7, 1, 0);
        scene.gives(1, "hand", 5, 7).gives(1, "bag", 0, 6).gives(1, "keeping", 4, 1).gives(24, "due", 7);
        scene.gives(0, "tick", 150).gives(1, "reward", 7, 0, 1, 0).gives(0, "match");
    }

    private static void nothingButStatus() {
        Scene scene = new Scene(CHECK, "A call with another STATUS than 0 gives NONE, or false, and changes nothing but STATUS.");
        scene.busy();
        scene.refuses(1, "kind", 4).refuses(2, "near", 0, 0, 1).refuses(4, "near", 0, 1, 1).refuses(1, "way", 0, 4, 1);
        scene.refuses(2, "way", 0, 1, 0).refuses(7, "way", 0, 2, NONE).refuses(1, "far", 0, 4).refuses(7, "far", 0, 3);
        scene.refuses(1, "found", 4, 0, 0, 0, 0).refuses(2, "found", 0, 0, 0, 0, -1).refuses(1, "lost", 4, 0, 0, 0, 0, 0);
        scene.refuses(2, "lost", 0, 0, 0, 0, 1, 0).refuses(1, "told", 7, 0).refuses(2, "told", 0, 7).refuses(1, "cost", 5, 0);
        scene.refuses(6, "cost", 4, 0).refuses(2, "gap", 101).refuses(1, "matched", 5).refuses(5, "matched", 3);
        scene.refuses(7, "matched", 4).refuses(1, "sure", 5, 0).refuses(2, "sure", 0, 1001).refuses(5, "sure", 3, 0);
        scene.refuses(7, "sure", 4, 0).refuses(1, "alike", 7, 0).refuses(2, "alike", 0, 65536).refuses(5, "alike", 3, 0);
        scene.refuses(1, "questions", 7, 1).refuses(2, "questions", 0, 25).refuses(5, "questions", 3, 1);
        scene.refuses(7, "questions", 0, 1).refuses(1, "claim", 5, 0, 1, 1).refuses(2, "claim", 0, 1, 0, 0);
        scene.refuses(4, "claim", 0, 0, 1, 1).refuses(5, "claim", 0, 3, 1, 1).refuses(6, "claim", 4, 0, 1, 1);
        scene.refuses(1, "hand", 5, 0).refuses(5, "hand", 0, 4).refuses(7, "hand", 2, 2).refuses(8, "hand", 0, 0);
        scene.refuses(1, "bag", 0, 7).refuses(4, "bag", 0, 0).refuses(5, "bag", 0, 3).refuses(1, "keeping", 4, 1);
        scene.refuses(2, "keeping", 0, 0).refuses(1, "due", 7).refuses(2, "tick", 149).refuses(2, "tick", 200001);
        scene.refuses(1, "reward", 7, 1, 1, 0).refuses(2, "reward", 0, 1, 0x010001, 0);
    }

    /** A refused call takes the place of the STATUS before, be that 0 or another. */
    private static void refusedOneByOne() {
        LostDesk desk = Desks.small();
        CHECK.refused(desk, "kind(1)", desk.kind(1), 1);
        CHECK.denied(desk, "gap(101)", desk.gap(101), 2);
        CHECK.refused(desk, "told(0, 7)", desk.told(0, 7), 1);
        CHECK.given(desk, "match()", desk.match(), 0);
        CHECK.denied(desk, "near(0, 1, false)", desk.near(0, 1, false), 4);
        CHECK.granted(desk, "near(0, 1, true)", desk.near(0, 1, true));
    }

    private static void noStatusOfTheirOwn() {
        Scene scene = new Scene(CHECK, "status() and out() have none.").busy();
        scene.out(34, 33, 33).gives(0, "status").gives(NONE, "out", 3).gives(NONE, "out", -1).gives(34, "out", 0);
        LostDesk desk = Desks.small();
        desk.gap(101);
        CHECK.due("status()", desk.status(), 2);
        CHECK.due("status() behind status()", desk.status(), 2);
        CHECK.due("out(0)", desk.out(0), NONE);
        CHECK.due("out(-1)", desk.out(-1), NONE);
        CHECK.due("status() behind out()", desk.status(), 2);
    }
}
