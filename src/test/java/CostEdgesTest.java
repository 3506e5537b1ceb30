/** "==== 2.", first half: when a LOSS and a FIND CAN be one, and at what COST; a test for each sentence. */
public final class CostEdgesTest {
    private static final int NONE = LostDesk.NONE;
    private static final Check CHECK = new Check();

    public static void main(String[] args) {
        canBeByKind();
        canBeByColour();
        canBeByFar();
        canBeByWays();
        findIsNotAhead();
        costOfSteps();
        costOfColours();
        costOfMarks();
        costOfTicksBehind();
        costOfNoTicksBehind();
        costOfAllTogether();
        CHECK.end();
    }

    private static void canBeByKind() {
        Scene scene = new Scene(CHECK, "A LOSS and a FIND CAN be one, if one's KIND is in the LINE of the other's;");
        scene.town();
        for (int kind = 0; kind < 4; kind++) {
            scene.tell("found", kind, 0, 0, 0, 0).tell("lost", kind, 0, 0, 0, 0, 0);
        }
        scene.gives(0, "cost", 2, 2).gives(2, "cost", 1, 2).gives(4, "cost", 2, 0).gives(2, "cost", 3, 0);
        scene.refuses(6, "cost", 3, 1).refuses(6, "cost", 3, 2).refuses(6, "cost", 2, 3).refuses(6, "cost", 1, 3);
    }

    private static void canBeByColour() {
        Scene scene = new Scene(CHECK, "both COLOURS are alike or NEAR, or one is NONE;");
        scene.small().tell("near", 0, 1, 1).tell("near", 1, 2, 1);
        scene.tell("found", 0, 0, 0, 0, 0).tell("found", 0, NONE, 0, 0, 0).tell("found", 0, 2, 0, 0, 0);
        scene.tell("lost", 0, 0, 0, 0, 0, 0).tell("lost", 0, 1, 0, 0, 0, 0).tell("lost", 0, NONE, 0, 0, 0, 0);
        scene.tell("lost", 0, 11, 0, 0, 0, 0);
        scene.gives(0, "cost", 0, 0).gives(1, "cost", 1, 0).gives(2, "cost", 2, 0).gives(2, "cost", 3, 1);
        scene.gives(0, "cost", 2, 1).gives(1, "cost", 1, 2);
        scene.refuses(6, "cost", 0, 2).refuses(6, "cost", 3, 0);
        scene.tell("near", 1, 0, 0).refuses(6, "cost", 1, 0).gives(1, "cost", 1, 2);
    }

    private static void canBeByFar() {
        Scene scene = new Scene(CHECK, "at most as many ticks as lie from the beginning of the LOSS to the FIND's tick");
        scene.town().tell("found", 0, 0, 0, 2, 100).tell("found", 0, 0, 0, 0, 15).tell("found", 0, 0, 0, 2, 14);
        scene.tell("lost", 0, 0, 0, 0, 85, 100).tell("lost", 0, 0, 0, 0, 86, 100).tell("lost", 0, 0, 0, 2, 0, 100);
        scene.tell("lost", 0, 0, 0, 0, 0, 100);
        scene.gives(0, "cost", 0, 0).refuses(6, "cost", 1, 0);
        scene.gives(0, "cost", 2, 1).gives(0, "cost", 2, 2).refuses(6, "cost", 3, 2);
        scene.tell("way", 1, 2, 4).gives(0, "cost", 1, 0).gives(0, "cost", 3, 2);
        scene.tell("way", 1, 2, 6).refuses(6, "cost", 0, 0).refuses(6, "cost", 2, 1);
    }

    private static void canBeByWays() {
        Scene scene = new Scene(CHECK, "and the FIND's PLACE is FAR from that of the LOSS");
        scene.town().tell("found", 0, 0, 0, 0, 100000).tell("lost", 0, 0, 0, 2, 0, 99985);
        scene.tell("lost", 0, 0, 0, 3, 0, 100000);
        scene.gives(0, "cost", 0, 0).refuses(6, "cost", 1, 0);
        scene.tell("way", 0, 1, NONE).refuses(6, "cost", 0, 0);
        scene.tell("way", 3, 0, 1000).gives(0, "cost", 1, 0);
    }

    private static void findIsNotAhead() {
        Scene scene = new Scene(CHECK, "(which is not ahead of it).");
        scene.small().tell("found", 0, 0, 0, 0, 50).tell("found", 0, 0, 0, 0, 0);
        scene.tell("lost", 0, 0, 0, 0, 50, 60).tell("lost", 0, 0, 0, 0, 51, 60).tell("lost", 0, 0, 0, 0, 0, 0);
        scene.tell("lost", 0, 0, 0, 0, 100000, 100000).tell("lost", 0, 0, 0, 0, 1, 1);
        scene.gives(0, "cost", 0, 0).gives(0, "cost", 2, 1);
        scene.refuses(6, "cost", 1, 0).refuses(6, "cost", 3, 0).refuses(6, "cost", 4, 1);
    }

    private static void costOfSteps() {
        Scene scene = new Scene(CHECK, "COST of both: 2 for each step in the LINE from one KIND to the other;");
        scene.small();
        for (int kind = 1; kind < 40; kind++) {
            scene.tell("kind", kind - 1);
        }
        scene.tell("found", 38, 0, 0, 0, 0);
        scene.tell("lost", 38, 0, 0, 0, 0, 0).tell("lost", 39, 0, 0, 0, 0, 0).tell("lost", 0, 0, 0, 0, 0, 0);
        scene.gives(0, "cost", 0, 0).gives(2, "cost", 1, 0).gives(76, "cost", 2, 0);
    }

    private static void costOfColours() {
        Scene scene = new Scene(CHECK, "0 for like COLOURS, 1 for NEAR ones, 2 if just one is NONE (both: 0);");
        scene.small().tell("near", 10, 11, 1).tell("found", 0, 11, 0, 0, 0).tell("found", 0, NONE, 0, 0, 0);
        scene.tell("lost", 0, 11, 0, 0, 0, 0).tell("lost", 0, 10, 0, 0, 0, 0).tell("lost", 0, NONE, 0, 0, 0, 0);
        scene.gives(0, "cost", 0, 0).gives(1, "cost", 1, 0).gives(2, "cost", 2, 0);
        scene.gives(2, "cost", 0, 1).gives(2, "cost", 1, 1).gives(0, "cost", 2, 1);
    }

    private static void costOfMarks() {
        Scene scene = new Scene(CHECK, "3 for each MARK that is told and that the FIND has not;");
        scene.small().tell("found", 0, 0, 0, 0, 0).tell("found", 0, 0, 65535, 0, 0).tell("found", 0, 0, 32767, 0, 0);
        scene.tell("lost", 0, 0, 0, 0, 0, 0).tell("lost", 0, 0, 65535, 0, 0, 0).tell("lost", 0, 0, 32768, 0, 0, 0);
        scene.gives(0, "cost", 0, 0).gives(0, "cost", 0, 1).gives(48, "cost", 1, 0).gives(0, "cost", 1, 1);
        scene.gives(3, "cost", 1, 2).gives(3, "cost", 2, 2).gives(3, "cost", 2, 0).gives(0, "cost", 2, 1);
    }

    private static void costOfTicksBehind() {
        Scene scene = new Scene(CHECK, "and 1 for each 10 ticks, rounded down, that the FIND's tick lies behind the end");
        scene.town().tell("found", 0, 0, 0, 0, 120).tell("found", 0, 0, 0, 2, 120);
        scene.tell("found", 0, 0, 0, 0, 100000);
        for (int end : new int[] {111, 110, 101, 100, 0}) {
            scene.tell("lost", 0, 0, 0, 0, 0, end);
        }
        scene.gives(0, "cost", 0, 0).gives(1, "cost", 1, 0).gives(1, "cost", 2, 0).gives(2, "cost", 3, 0);
        scene.gives(10000, "cost", 4, 2).gives(12, "cost", 4, 0).gives(10, "cost", 4, 1);
        scene.gives(0, "cost", 2, 1).gives(0, "cost", 3, 1);
    }

    private static void costOfNoTicksBehind() {
        Scene scene = new Scene(CHECK, "of the LOSS and FAR (0 if it does not).");
        scene.town().tell("found", 0, 0, 0, 0, 100).tell("found", 0, 0, 0, 2, 115);
        for (int end : new int[] {100, 101, 110, 120, 100000, 99, 91, 90}) {
            scene.tell("lost", 0, 0, 0, 0, 0, end);
        }
        for (int loss = 0; loss < 7; loss++) {
            scene.gives(0, "cost", loss, 0).gives(0, "cost", loss, 1);
        }
        scene.gives(1, "cost", 7, 0).gives(1, "cost", 7, 1);
    }

    private static void costOfAllTogether() {
        Scene scene = new Scene(CHECK, "COST of both: 2 for each step in the LINE from one KIND to the other;");
        scene.small();
        for (int kind = 1; kind < 40; kind++) {
            scene.tell("kind", kind - 1);
        }
        scene.tell("found", 39, NONE, 0, 0, 100000).tell("lost", 0, 0, 65535, 0, 0, 0);
        scene.gives(10128, "cost", 0, 0).gives(20, "match").refuses(7, "matched", 0);
    }
}
