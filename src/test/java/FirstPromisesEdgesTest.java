/** Promises 1 to 12: each sentence with what it says in brackets, a test for each. */
public final class FirstPromisesEdgesTest {
    private static final int NONE = LostDesk.NONE;
    private static final Check CHECK = new Check();

    public static void main(String[] args) {
        newObject();
        newObjectHasTickZero();
        status();
        kind();
        near();
        place();
        way();
        wrongWays();
        far();
        farFromItself();
        found();
        lost();
        told();
        toldState();
        toldBag();
        marksAreHidden();
        cost();
        gap();
        CHECK.end();
    }

    private static void newObject() {
        Scene scene = new Scene(CHECK, "Nothing is told; tick 0; OUT is empty; STATUS 0.");
        scene.gives(0, "status").out().gives(0, "match");
        scene.refuses(1, "kind", 0).refuses(1, "far", 0, 0).refuses(1, "way", 0, 1, 1).refuses(1, "found", 0, 0, 0, 0, 0);
        scene.refuses(1, "lost", 0, 0, 0, 0, 0, 0).refuses(1, "told", 0, 0).refuses(1, "cost", 0, 0).refuses(1, "matched", 0);
        scene.refuses(1, "sure", 0, 0).refuses(1, "alike", 0, 0).refuses(1, "questions", 0, 1);
        scene.refuses(1, "claim", 0, 0, 1, 1).refuses(1, "hand", 0, 0).refuses(1, "bag", 0, 0).refuses(1, "keeping", 0, 1);
        scene.refuses(1, "due", 0).refuses(1, "reward", 0, 0, 1, 0);
        for (int colour = 1; colour < 12; colour++) {
            scene.refuses(4, "near", 0, colour, 0);
        }
    }

    private static void newObjectHasTickZero() {
        Scene scene = new Scene(CHECK, "Nothing is told; tick 0; OUT is empty; STATUS 0.");
        scene.refuses(2, "tick", -1).gives(0, "tick", 0).gives(0, "tick", 1).refuses(2, "tick", 0);
        LostDesk desk = new LostDesk();
        CHECK.due("status() at once", desk.status(), 0);
        CHECK.due("out(0) at once", new LostDesk().out(0), NONE);
    }

    private static void status() {
        Scene scene = new Scene(CHECK, "The STATUS of the latest call that has one.");
        scene.gives(0, "status").refuses(1, "kind", 5).gives(0, "kind", NONE).refuses(2, "gap", -1);
        LostDesk desk = new LostDesk();
        desk.kind(5);
        CHECK.due("status()", desk.status(), 1);
        desk.out(0);
        desk.status();
        CHECK.due("status() behind out() and status()", desk.status(), 1);
        desk.match();
        CHECK.due("status() behind match()", desk.status(), 0);
    }

    private static void kind() {
        Scene scene = new Scene(CHECK, "A KIND more: its number (1: above, NONE for the first one alone; 3).");
        scene.refusesEach(1, 0, Numbers.outsideOrNone(0, -1), "kind", NONE);
        scene.gives(0, "kind", NONE).refusesEach(1, 0, Numbers.noneOf(1), "kind", NONE);
        for (int kind = 1; kind < 40; kind++) {
            scene.gives(kind, "kind", kind - 1);
        }
        scene.refuses(3, "kind", 39).refuses(3, "kind", 0).refusesEach(1, 0, Numbers.noneOf(40), "kind", NONE);
    }

    private static void near() {
        Scene scene = new Scene(CHECK, "Two COLOURS are NEAR, or no more (2: like ones, too; 4).");
        scene.gives(1, "near", 0, 1, 1).refuses(4, "near", 0, 1, 1).refuses(4, "near", 1, 0, 1);
        scene.gives(1, "near", 1, 0, 0).refuses(4, "near", 0, 1, 0).refuses(4, "near", 1, 0, 0).gives(1, "near", 1, 0, 1);
        for (int colour = 0; colour < 12; colour++) {
            scene.refuses(2, "near", colour, colour, colour % 2);
        }
        scene.refusesEach(2, 0, Numbers.outside(0, 11), "near", 0, 5, 1);
        scene.refusesEach(2, 1, Numbers.outside(0, 11), "near", 5, 0, 0);
        scene.refuses(2, "near", -1, -1, 1).refuses(2, "near", 12, 12, 0);
    }

    private static void place() {
        Scene scene = new Scene(CHECK, "A PLACE more: its number (3).");
        for (int place = 0; place < 20; place++) {
            scene.gives(place, "place");
        }
        scene.refuses(3, "place").gives(0, "far", 19, 19);
    }

    private static void way() {
        Scene scene = new Scene(CHECK, "A WAY between two PLACES (another one between these goes), or none any more (ticks NONE)");
        scene.tell("place").tell("place").gives(1, "way", 0, 1, 10).gives(1, "way", 1, 0, 30).gives(30, "far", 0, 1);
        scene.gives(1, "way", 0, 1, 20).gives(20, "far", 1, 0).gives(1, "way", 0, 1, 20).gives(20, "far", 0, 1);
        scene.gives(1, "way", 1, 0, NONE).refuses(7, "far", 0, 1).refuses(7, "far", 1, 0).gives(1, "way", 0, 1, 9);
    }

    private static void wrongWays() {
        Scene scene = new Scene(CHECK, "(1: like ones, too; 2; 7: there is none).").busy();
        scene.refusesEach(1, 0, Numbers.noneOf(4), "way", 0, 1, 1).refusesEach(1, 1, Numbers.noneOf(4), "way", 1, 0, 1);
        scene.refuses(1, "way", 0, 0, 1).refuses(1, "way", 3, 3, NONE).refuses(1, "way", 1, 1, 1000);
        scene.refusesEach(2, 2, Numbers.outsideOrNone(1, 1000), "way", 0, 1, 1);
        scene.refuses(7, "way", 0, 2, NONE).refuses(7, "way", 3, 0, NONE);
        scene.gives(1, "way", 0, 1, NONE).refuses(7, "way", 0, 1, NONE).refuses(7, "way", 1, 0, NONE);
    }

    private static void far() {
        Scene scene = new Scene(CHECK, "FAR (1; 7: there are no ways).").busy();
        scene.gives(15, "far", 0, 2).gives(15, "far", 2, 0).refuses(7, "far", 0, 3).refuses(7, "far", 3, 2);
        scene.refusesEach(1, 0, Numbers.noneOf(4), "far", 0, 0).refusesEach(1, 1, Numbers.noneOf(4), "far", 0, 0);
        scene.refuses(1, "far", 4, 4).refuses(1, "far", NONE, NONE);
    }

    private static void farFromItself() {
        Scene scene = new Scene(CHECK, "Of a PLACE from itself 0.");
        scene.gives(0, "place").gives(0, "far", 0, 0).gives(1, "place").tell("way", 0, 1, 1);
        scene.gives(0, "far", 0, 0).gives(0, "far", 1, 1).tell("way", 0, 1, NONE).gives(0, "far", 1, 1);
    }

    private static void found() {
        Scene scene = new Scene(CHECK, "A FIND more: its number (1; 2; 3).").busy();
        scene.refusesEach(1, 0, Numbers.noneOf(4), "found", 0, 0, 0, 0, 0);
        scene.refusesEach(1, 3, Numbers.noneOf(4), "found", 0, 0, 0, 0, 0);
        scene.refusesEach(2, 1, Numbers.outsideOrNone(0, 11), "found", 0, 0, 0, 0, 0);
        scene.refusesEach(2, 2, Numbers.outside(0, 65535), "found", 0, 0, 0, 0, 0);
        scene.refusesEach(2, 4, Numbers.outside(0, 100000), "found", 0, 0, 0, 0, 0);
        for (int find = 7; find < 24; find++) {
            scene.gives(find, "found", 3, NONE, 65535, 3, 100000);
        }
        scene.refuses(3, "found", 3, NONE, 65535, 3, 100000);
    }

    private static void lost() {
        Scene scene = new Scene(CHECK, "A LOSS more: its number (1; 2: also from above to; 3).").busy();
        scene.refusesEach(1, 0, Numbers.noneOf(4), "lost", 0, 0, 0, 0, 0, 0);
        scene.refusesEach(1, 3, Numbers.noneOf(4), "lost", 0, 0, 0, 0, 0, 0);
        scene.refusesEach(2, 1, Numbers.outsideOrNone(0, 11), "lost", 0, 0, 0, 0, 0, 0);
        scene.refusesEach(2, 2, Numbers.outside(0, 65535), "lost", 0, 0, 0, 0, 0, 0);
        scene.refusesEach(2, 4, Numbers.outside(0, 50), "lost", 0, 0, 0, 0, 0, 50);
        scene.refusesEach(2, 5, Numbers.outside(50, 100000), "lost", 0, 0, 0, 0, 50, 50);
        scene.refuses(2, "lost", 0, 0, 0, 0, 100000, 0).refuses(2, "lost", 0, 0, 0, 0, 1, 0);
        for (int loss = 5; loss < 24; loss++) {
            scene.gives(loss, "lost", 3, NONE, 65535, 3, 100000, 100000);
        }
        scene.refuses(3, "lost", 0, 0, 0, 0, 0, 0);
    }

    private static void told() {
        Scene scene = new Scene(CHECK, "What is told of a FIND: what 0: KIND, 1: COLOUR, 2: PLACE, 3: tick,").busy();
        scene.gives(2, "told", 0, 0).gives(0, "told", 0, 1).gives(1, "told", 0, 2).gives(100, "told", 0, 3);
        scene.gives(NONE, "told", 1, 1).gives(5, "told", 3, 1);
    }

    private static void toldState() {
        Scene scene = new Scene(CHECK, "4: 0 KEPT, 1 HANDED, 2 GONE, 5: the LOSS to which it was HANDED (NONE),").busy();
        scene.gives(0, "told", 0, 4).gives(1, "told", 4, 4).gives(1, "told", 5, 4).gives(2, "told", 3, 4);
        scene.gives(NONE, "told", 0, 5).gives(3, "told", 4, 5).gives(3, "told", 5, 5).gives(NONE, "told", 3, 5);
    }

    private static void toldBag() {
        Scene scene = new Scene(CHECK, "6: the least FIND of its BAG (1; 2).").busy();
        scene.gives(0, "told", 0, 6).gives(1, "told", 2, 6).gives(1, "told", 1, 6).gives(4, "told", 5, 6).gives(3, "told", 3, 6);
        scene.gives(1, "bag", 6, 2).gives(1, "told", 6, 6).gives(1, "bag", 6, 0).gives(0, "told", 2, 6).gives(0, "told", 6, 6);
        scene.refusesEach(1, 0, Numbers.noneOf(7), "told", 0, 0).refusesEach(2, 1, Numbers.outside(0, 6), "told", 0, 0);
    }

    private static void marksAreHidden() {
        Scene scene = new Scene(CHECK, "(MARKS are hidden.)");
        scene.small().tell("found", 0, 3, 0, 0, 9).tell("found", 0, 3, 65535, 0, 9);
        for (int what = 0; what < 6; what++) {
            int told = new int[] {0, 3, 0, 9, 0, NONE}[what];
            scene.gives(told, "told", 0, what).gives(told, "told", 1, what);
        }
        scene.refuses(2, "told", 1, 7).refuses(2, "told", 1, NONE);
    }

    private static void cost() {
        Scene scene = new Scene(CHECK, "COST of a LOSS and a FIND, also of those HANDED or GONE (1; 6).").busy();
        scene.tell("lost", 3, 5, 2, 0, 0, 80).gives(1, "cost", 3, 4).gives(7, "cost", 3, 0).gives(3, "cost", 0, 4);
        scene.gives(4, "cost", 5, 3).gives(3, "cost", 0, 0);
        scene.refusesEach(1, 0, Numbers.noneOf(6), "cost", 0, 0).refusesEach(1, 1, Numbers.noneOf(7), "cost", 0, 0);
        scene.refuses(6, "cost", 4, 0).refuses(6, "cost", 0, 3).refuses(6, "cost", 3, 5);
    }

    private static void gap() {
        Scene scene = new Scene(CHECK, "GAP (2).").busy();
        scene.gives(22, "match").gives(1, "gap", 0).gives(0, "match").gives(1, "gap", 100).gives(107, "match");
        scene.refusesEach(2, 0, Numbers.outside(0, 100), "gap", 0);
    }
}
