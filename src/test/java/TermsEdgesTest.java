/** "Terms": the bounds of KINDS, COLOURS, PLACES, WAYS, FINDS and LOSSES, a test for each sentence. */
public final class TermsEdgesTest {
    private static final int NONE = LostDesk.NONE;
    private static final int LEAST = Integer.MIN_VALUE;
    private static final int GREATEST = Integer.MAX_VALUE;
    private static final Check CHECK = new Check();

    public static void main(String[] args) {
        kindsAreFortyAtMost();
        firstKindAndOthers();
        lineHasAllAbove();
        lineOfHighKinds();
        colours();
        placesAreTwentyAtMost();
        wayTakesTicks();
        farIsTheLeast();
        farIsNone();
        findsAreTwentyFourAtMost();
        findsAwayCountToo();
        lossesAreTwentyFourAtMost();
        findMayHaveNoColour();
        marksOfAFind();
        tickOfAFind();
        lossMayHaveNoColour();
        ticksOfALoss();
        CHECK.end();
    }

    private static void kindsAreFortyAtMost() {
        Scene scene = new Scene(CHECK, "KINDS, at most 40, numbered as they come");
        scene.gives(0, "kind", NONE).gives(0, "place");
        for (int kind = 1; kind < 40; kind++) {
            scene.gives(kind, "kind", kind / 2);
        }
        scene.gives(0, "found", 39, 0, 0, 0, 0);
        scene.refuses(3, "kind", 0).refuses(3, "kind", 39);
        scene.refuses(1, "found", 40, 0, 0, 0, 0).refuses(1, "lost", 40, 0, 0, 0, 0, 0).refuses(1, "keeping", 40, 1);
    }

    private static void firstKindAndOthers() {
        Scene scene = new Scene(CHECK, "a first one, each other one below one there is.");
        scene.refuses(1, "kind", 0).refuses(1, "kind", 1);
        scene.gives(0, "kind", NONE);
        scene.refuses(1, "kind", NONE).refuses(1, "kind", 1);
        scene.gives(1, "kind", 0).gives(2, "kind", 0);
    }

    private static void lineHasAllAbove() {
        Scene scene = new Scene(CHECK, "LINE of a KIND: itself, that above it, and so on.");
        scene.small();
        for (int kind = 1; kind < 40; kind++) {
            scene.gives(kind, "kind", kind - 1);
        }
        scene.tell("found", 39, 0, 0, 0, 0).tell("found", 0, 0, 0, 0, 0);
        scene.tell("lost", 0, 0, 0, 0, 0, 0).tell("lost", 39, 0, 0, 0, 0, 0);
        scene.gives(78, "cost", 0, 0).gives(0, "cost", 1, 0).gives(78, "cost", 1, 1).gives(0, "cost", 0, 1);
        scene.gives(1, "keeping", 0, 3).gives(72, "due", 0).gives(2, "alike", 0, 0);
    }

    /** 32 and 0, 33 and 1 are one number where a shift wraps around. */
    private static void lineOfHighKinds() {
        Scene scene = new Scene(CHECK, "LINE of a KIND: itself, that above it, and so on.");
        scene.small();
        for (int kind = 1; kind < 40; kind++) {
            scene.tell("kind", kind == 33 ? 32 : 0);
        }
        scene.tell("found", 33, 0, 0, 0, 0).tell("found", 39, 0, 0, 0, 0);
        scene.tell("lost", 1, 0, 0, 0, 0, 0).tell("lost", 7, 0, 0, 0, 0, 0).tell("lost", 32, 0, 0, 0, 0, 0);
        scene.refuses(6, "cost", 0, 0).refuses(6, "cost", 1, 1).refuses(6, "cost", 2, 1);
        scene.gives(2, "cost", 2, 0).gives(1, "alike", 0, 0);
    }

    private static void colours() {
        Scene scene = new Scene(CHECK, "COLOURS 0 to 11; two may be NEAR.");
        scene.small().gives(1, "near", 0, 11, 1).gives(1, "near", 11, 0, 0).gives(1, "near", 10, 11, 1);
        scene.gives(0, "found", 0, 0, 0, 0, 0).gives(1, "found", 0, 11, 0, 0, 0);
        scene.gives(0, "lost", 0, 0, 0, 0, 0, 0).gives(1, "lost", 0, 11, 0, 0, 0, 0);
        scene.refuses(2, "near", -1, 0, 1).refuses(2, "near", 0, -1, 1);
        scene.refuses(2, "near", 12, 0, 1).refuses(2, "near", 0, 12, 1);
        scene.refuses(2, "near", 0, 32, 1).refuses(2, "near", 43, 10, 0);
        scene.refuses(2, "found", 0, 12, 0, 0, 0).refuses(2, "lost", 0, 12, 0, 0, 0, 0);
    }

    private static void placesAreTwentyAtMost() {
        Scene scene = new Scene(CHECK, "PLACES, at most 20, numbered as they come");
        scene.tell("kind", NONE);
        for (int place = 0; place < 20; place++) {
            scene.gives(place, "place");
        }
        scene.gives(0, "found", 0, 0, 0, 19, 0).gives(1, "way", 0, 19, 7).gives(7, "far", 19, 0);
        scene.refuses(3, "place");
        scene.refuses(1, "far", 0, 20).refuses(1, "way", 20, 0, 1).refuses(1, "found", 0, 0, 0, 20, 0);
    }

    private static void wayTakesTicks() {
        Scene scene = new Scene(CHECK, "a WAY between two of them takes 1 to 1,000 ticks, both ways.");
        scene.tell("place").tell("place");
        scene.gives(1, "way", 0, 1, 1).gives(1, "far", 0, 1).gives(1, "far", 1, 0);
        scene.gives(1, "way", 1, 0, 1000).gives(1000, "far", 0, 1).gives(1000, "far", 1, 0);
        scene.refuses(2, "way", 0, 1, 0).refuses(2, "way", 0, 1, 1001).refuses(2, "way", 1, 0, -2);
        scene.refuses(2, "way", 0, 1, LEAST).refuses(2, "way", 0, 1, GREATEST).refuses(2, "way", 0, 1, 65537);
    }

    private static void farIsTheLeast() {
        Scene scene = new Scene(CHECK, "FAR is one PLACE from another one: the least ticks by WAYS");
        scene.tell("place");
        for (int place = 1; place < 20; place++) {
            scene.tell("place").tell("way", place, place - 1, 1000);
        }
        scene.gives(19000, "far", 0, 19).gives(19000, "far", 19, 0).gives(1000, "far", 0, 1);
        scene.tell("way", 0, 2, 1000).tell("way", 0, 3, 1000).tell("way", 3, 4, 1);
        scene.gives(1000, "far", 0, 2).gives(1001, "far", 0, 4).gives(16001, "far", 19, 0);
        scene.tell("way", 0, 4, 1000).gives(1000, "far", 4, 0).gives(16000, "far", 0, 19);
    }

    private static void farIsNone() {
        Scene scene = new Scene(CHECK, "none, if there are no such ways.");
        scene.tell("kind", NONE).tell("place").tell("place").tell("place");
        scene.tell("found", 0, 0, 0, 0, 100000).tell("lost", 0, 0, 0, 2, 0, 0);
        scene.refuses(7, "far", 0, 1).refuses(7, "far", 2, 0).refuses(6, "cost", 0, 0);
        scene.tell("way", 0, 1, 5).refuses(7, "far", 0, 2).refuses(7, "far", 2, 1);
        scene.tell("way", 1, 2, 5).gives(10, "far", 0, 2).gives(9999, "cost", 0, 0);
        scene.tell("way", 0, 1, NONE).refuses(7, "far", 0, 2).refuses(6, "cost", 0, 0).gives(5, "far", 2, 1);
    }

    private static void findsAreTwentyFourAtMost() {
        Scene scene = new Scene(CHECK, "FINDS, at most 24, and LOSSES, at most 24, numbered as they come.");
        scene.small();
        for (int find = 0; find < 24; find++) {
            scene.gives(find, "found", 0, 0, find, 0, find);
        }
        scene.gives(23, "told", 23, 3).gives(24, "alike", 23, 0).gives(23, "questions", 23, 1);
        scene.refuses(3, "found", 0, 0, 0, 0, 0);
        scene.refuses(1, "told", 24, 0).refuses(1, "due", 24).refuses(1, "bag", 23, 24);
    }

    private static void findsAwayCountToo() {
        Scene scene = new Scene(CHECK, "FINDS, at most 24, and LOSSES, at most 24, numbered as they come.");
        scene.small().finds(24).losses(24);
        scene.gives(1, "claim", 0, 1, 1, 1).gives(1, "hand", 0, 1).gives(23, "tick", 200000);
        scene.refuses(3, "found", 0, 0, 0, 0, 0).refuses(3, "lost", 0, 0, 0, 0, 0, 0);
    }

    private static void lossesAreTwentyFourAtMost() {
        Scene scene = new Scene(CHECK, "FINDS, at most 24, and LOSSES, at most 24, numbered as they come.");
        scene.small();
        for (int loss = 0; loss < 24; loss++) {
            scene.gives(loss, "lost", 0, 0, 0, 0, 0, 10);
        }
        scene.gives(480, "match").finds(24).gives(0, "match").gives(23, "matched", 23).gives(0, "cost", 23, 23);
        scene.refuses(3, "lost", 0, 0, 0, 0, 0, 10);
        scene.refuses(1, "matched", 24).refuses(1, "cost", 24, 0).refuses(1, "claim", 24, 0, 1, 0);
    }

    private static void findMayHaveNoColour() {
        Scene scene = new Scene(CHECK, "A FIND: a KIND, a COLOUR (or NONE), MARKS that it has");
        scene.small().gives(0, "found", 0, NONE, 0, 0, 0).gives(NONE, "told", 0, 1);
        scene.refuses(2, "found", 0, -2, 0, 0, 0).refuses(2, "found", 0, LEAST, 0, 0, 0);
        scene.refuses(2, "found", 0, 12, 0, 0, 0).refuses(2, "found", 0, GREATEST, 0, 0, 0);
    }

    private static void marksOfAFind() {
        Scene scene = new Scene(CHECK, "(0 to 65,535: 1 for MARK 0, 2 for 1 ..), a PLACE,");
        scene.small().gives(0, "found", 0, 0, 0, 0, 0).gives(1, "found", 0, 0, 65535, 0, 0);
        scene.gives(2, "found", 0, 0, 1, 0, 0).gives(3, "found", 0, 0, 32768, 0, 0).gives(4, "found", 0, 0, 2, 0, 0);
        scene.gives(2, "alike", 2, 1).gives(2, "alike", 3, 32768).gives(2, "alike", 4, 2).gives(3, "alike", 0, 1);
        scene.refuses(2, "found", 0, 0, -1, 0, 0).refuses(2, "found", 0, 0, 65536, 0, 0);
        scene.refuses(2, "found", 0, 0, LEAST, 0, 0).refuses(2, "found", 0, 0, GREATEST, 0, 0);
    }

    private static void tickOfAFind() {
        Scene scene = new Scene(CHECK, "a tick (0 to 100,000).");
        scene.small().gives(0, "found", 0, 0, 0, 0, 0).gives(1, "found", 0, 0, 0, 0, 100000);
        scene.gives(0, "told", 0, 3).gives(100000, "told", 1, 3);
        scene.refuses(2, "found", 0, 0, 0, 0, -1).refuses(2, "found", 0, 0, 0, 0, 100001);
        scene.refuses(2, "found", 0, 0, 0, 0, LEAST).refuses(2, "found", 0, 0, 0, 0, GREATEST);
    }

    private static void lossMayHaveNoColour() {
        Scene scene = new Scene(CHECK, "A LOSS: a KIND, a COLOUR (or NONE), MARKS that are told, a PLACE,");
        scene.small().tell("found", 0, 3, 0, 0, 0);
        scene.gives(0, "lost", 0, NONE, 0, 0, 0, 0).gives(2, "cost", 0, 0);
        scene.gives(1, "lost", 0, 3, 65535, 0, 0, 0).gives(48, "cost", 1, 0);
        scene.refuses(2, "lost", 0, -2, 0, 0, 0, 0).refuses(2, "lost", 0, 12, 0, 0, 0, 0);
        scene.refuses(2, "lost", 0, 0, -1, 0, 0, 0).refuses(2, "lost", 0, 0, 65536, 0, 0, 0);
    }

    private static void ticksOfALoss() {
        Scene scene = new Scene(CHECK, "from a tick to a tick.");
        scene.small().gives(0, "lost", 0, 0, 0, 0, 0, 0).gives(1, "lost", 0, 0, 0, 0, 0, 100000);
        scene.gives(2, "lost", 0, 0, 0, 0, 100000, 100000);
        scene.refuses(2, "lost", 0, 0, 0, 0, -1, 0).refuses(2, "lost", 0, 0, 0, 0, 0, 100001);
        scene.refuses(2, "lost", 0, 0, 0, 0, 100001, 100001).refuses(2, "lost", 0, 0, 0, 0, -1, -1);
        scene.refuses(2, "lost", 0, 0, 0, 0, LEAST, 0).refuses(2, "lost", 0, 0, 0, 0, 0, GREATEST);
    }
}
