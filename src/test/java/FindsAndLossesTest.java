/** Promises 8 to 11. */
public final class FindsAndLossesTest {
    private static final int NONE = LostDesk.NONE;
    private static final Check CHECK = new Check();

    public static void main(String[] args) {
        found();
        lost();
        told();
        costOfKinds();
        costOfColours();
        costOfMarks();
        costOfTicks();
        costOfHandedAndGone();
        CHECK.end();
    }

    private static void found() {
        LostDesk desk = new LostDesk();
        CHECK.refused(desk, "found without KINDS", desk.found(0, 0, 0, 0, 0), 1);
        desk.kind(NONE);
        CHECK.refused(desk, "found without PLACES", desk.found(0, 0, 0, 0, 0), 1);
        desk.place();
        CHECK.refused(desk, "found of KIND 1", desk.found(1, 0, 0, 0, 0), 1);
        CHECK.refused(desk, "found at PLACE 1, colour 12", desk.found(0, 12, 0, 1, 0), 1);
        CHECK.refused(desk, "found of colour 12", desk.found(0, 12, 0, 0, 0), 2);
        CHECK.refused(desk, "found of colour -2", desk.found(0, -2, 0, 0, 0), 2);
        CHECK.refused(desk, "found with marks -1", desk.found(0, 0, -1, 0, 0), 2);
        CHECK.refused(desk, "found with marks 65536", desk.found(0, 0, 65536, 0, 0), 2);
        CHECK.refused(desk, "found at tick -1", desk.found(0, 0, 0, 0, -1), 2);
        CHECK.refused(desk, "found at tick 100001", desk.found(0, 0, 0, 0, 100001), 2);
        CHECK.given(desk, "found at the edges", desk.found(0, 11, 65535, 0, 100000), 0);
        CHECK.given(desk, "found of no colour", desk.found(0, NONE, 0, 0, 0), 1);
        for (int find = 2; find < 24; find++) {
            CHECK.given(desk, "found", desk.found(0, 0, 0, 0, 0), find);
        }
        CHECK.refused(desk, "found, the 25th", desk.found(0, 0, 0, 0, 0), 3);
        CHECK.refused(desk, "found, full, colour 12", desk.found(0, 12, 0, 0, 0), 2);
        CHECK.refused(desk, "found, full, KIND 1", desk.found(1, 0, 0, 0, 0), 1);
        CHECK.refused(desk, "told(24, 0)", desk.told(24, 0), 1);
    }

    private static void lost() {
        LostDesk desk = new LostDesk();
        CHECK.refused(desk, "lost without KINDS", desk.lost(0, 0, 0, 0, 0, 0), 1);
        desk.kind(NONE);
        CHECK.refused(desk, "lost without PLACES", desk.lost(0, 0, 0, 0, 0, 0), 1);
        desk.place();
        CHECK.refused(desk, "lost of KIND 1", desk.lost(1, 0, 0, 0, 0, 0), 1);
        CHECK.refused(desk, "lost at PLACE 1, from above to", desk.lost(0, 0, 0, 1, 5, 4), 1);
        CHECK.refused(desk, "lost of colour 12", desk.lost(0, 12, 0, 0, 0, 0), 2);
        CHECK.refused(desk, "lost of colour -2", desk.lost(0, -2, 0, 0, 0, 0), 2);
        CHECK.refused(desk, "lost with marks -1", desk.lost(0, 0, -1, 0, 0, 0), 2);
        CHECK.refused(desk, "lost with marks 65536", desk.lost(0, 0, 65536, 0, 0, 0), 2);
        CHECK.refused(desk, "lost from -1", desk.lost(0, 0, 0, 0, -1, 0), 2);
        CHECK.refused(desk, "lost to 100001", desk.lost(0, 0, 0, 0, 0, 100001), 2);
        CHECK.refused(desk, "lost from 100001", desk.lost(0, 0, 0, 0, 100001, 100001), 2);
        CHECK.refused(desk, "lost from above to", desk.lost(0, 0, 0, 0, 5, 4), 2);
        CHECK.given(desk, "lost at the edges", desk.lost(0, 11, 65535, 0, 0, 100000), 0);
        CHECK.given(desk, "lost at one tick", desk.lost(0, NONE, 0, 0, 100000, 100000), 1);
        for (int loss = 2; loss < 24; loss++) {
            CHECK.given(desk, "lost", desk.lost(0, 0, 0, 0, 0, 0), loss);
        }
        CHECK.refused(desk, "lost, the 25th", desk.lost(0, 0, 0, 0, 0, 0), 3);
        CHECK.refused(desk, "lost, full, from above to", desk.lost(0, 0, 0, 0, 1, 0), 2);
        CHECK.refused(desk, "matched(24)", desk.matched(24), 1);
        CHECK.given(desk, "match() of 24 LOSSES in no pair", desk.match(), 480);
    }

    private static void told() {
        LostDesk desk = Desks.town();
        desk.found(2, NONE, 7, 1, 100);
        desk.found(3, 11, 7, 2, 90);
        CHECK.given(desk, "told(0, 0)", desk.told(0, 0), 2);
        CHECK.given(desk, "told(0, 1) of no colour", desk.told(0, 1), NONE);
        CHECK.given(desk, "told(1, 1)", desk.told(1, 1), 11);
        CHECK.given(desk, "told(1, 2)", desk.told(1, 2), 2);
        CHECK.given(desk, "told(1, 3)", desk.told(1, 3), 90);
        CHECK.given(desk, "told(1, 4)", desk.told(1, 4), 0);
        CHECK.given(desk, "told(1, 5)", desk.told(1, 5), NONE);
        CHECK.given(desk, "told(1, 6)", desk.told(1, 6), 1);
        desk.bag(1, 0);
        CHECK.given(desk, "told(1, 6) in a BAG", desk.told(1, 6), 0);
        CHECK.refused(desk, "told(0, 7)", desk.told(0, 7), 2);
        CHECK.refused(desk, "told(0, -1)", desk.told(0, -1), 2);
        CHECK.refused(desk, "told(2, 7)", desk.told(2, 7), 1);
        CHECK.refused(desk, "told(-1, 0)", desk.told(-1, 0), 1);
        desk.lost(2, 0, 0, 0, 0, 0);
        desk.claim(0, 0, 1, 1);
        desk.hand(0, 0);
        CHECK.given(desk, "told(1, 4) HANDED in its BAG", desk.told(1, 4), 1);
        CHECK.given(desk, "told(1, 5)", desk.told(1, 5), 0);
        CHECK.given(desk, "told(1, 6)", desk.told(1, 6), 0);
        desk.found(0, 0, 0, 0, 0);
        desk.tick(200000);
        CHECK.given(desk, "told(2, 4) GONE", desk.told(2, 4), 2);
        CHECK.given(desk, "told(2, 5) GONE", desk.told(2, 5), NONE);
        CHECK.given(desk, "told(1, 4) still HANDED", desk.told(1, 4), 1);
    }

    private static void costOfKinds() {
        LostDesk desk = Desks.town();
        desk.found(2, 0, 0, 0, 0);
        desk.found(0, 0, 0, 0, 0);
        desk.lost(0, 0, 0, 0, 0, 0);
        desk.lost(1, 0, 0, 0, 0, 0);
        desk.lost(2, 0, 0, 0, 0, 0);
        desk.lost(3, 0, 0, 0, 0, 0);
        CHECK.given(desk, "cost(0, 0), two steps", desk.cost(0, 0), 4);
        CHECK.given(desk, "cost(1, 0), one step", desk.cost(1, 0), 2);
        CHECK.given(desk, "cost(2, 0), like KINDS", desk.cost(2, 0), 0);
        CHECK.given(desk, "cost(2, 1), the LOSS below", desk.cost(2, 1), 4);
        CHECK.given(desk, "cost(3, 1)", desk.cost(3, 1), 2);
        CHECK.refused(desk, "cost(3, 0), beside one another", desk.cost(3, 0), 6);
        CHECK.refused(desk, "cost(4, 0)", desk.cost(4, 0), 1);
        CHECK.refused(desk, "cost(0, 2)", desk.cost(0, 2), 1);
        CHECK.refused(desk, "cost(-1, 0)", desk.cost(-1, 0), 1);
        CHECK.refused(desk, "cost(0, greatest)", desk.cost(0, Integer.MAX_VALUE), 1);
    }

    private static void costOfColours() {
        LostDesk desk = Desks.town();
        desk.found(0, 0, 0, 0, 0);
        desk.found(0, NONE, 0, 0, 0);
        desk.lost(0, 0, 0, 0, 0, 0);
        desk.lost(0, 1, 0, 0, 0, 0);
        desk.lost(0, 2, 0, 0, 0, 0);
        desk.lost(0, NONE, 0, 0, 0, 0);
        CHECK.given(desk, "cost(0, 0), like COLOURS", desk.cost(0, 0), 0);
        CHECK.given(desk, "cost(1, 0), NEAR", desk.cost(1, 0), 1);
        CHECK.refused(desk, "cost(2, 0), not NEAR", desk.cost(2, 0), 6);
        CHECK.given(desk, "cost(3, 0), one is NONE", desk.cost(3, 0), 2);
        CHECK.given(desk, "cost(2, 1), one is NONE", desk.cost(2, 1), 2);
        CHECK.given(desk, "cost(3, 1), both are NONE", desk.cost(3, 1), 0);
        desk.near(2, 0, true);
        CHECK.given(desk, "cost(2, 0), NEAR now", desk.cost(2, 0), 1);
        desk.near(0, 1, false);
        CHECK.refused(desk, "cost(1, 0), NEAR no more", desk.cost(1, 0), 6);
    }

    private static void costOfMarks() {
        LostDesk desk = Desks.small();
        desk.found(0, 0, 5, 0, 0);
        desk.found(0, 0, 0, 0, 0);
        desk.lost(0, 0, 3, 0, 0, 0);
        desk.lost(0, 0, 65535, 0, 0, 0);
        CHECK.given(desk, "cost(0, 0), one MARK that it has not", desk.cost(0, 0), 3);
        CHECK.given(desk, "cost(1, 0)", desk.cost(1, 0), 42);
        CHECK.given(desk, "cost(1, 1)", desk.cost(1, 1), 48);
    }

    private static void costOfTicks() {
        LostDesk desk = Desks.town();
        desk.found(0, 0, 0, 2, 115);
        desk.found(0, 0, 0, 0, 100);
        desk.lost(0, 0, 0, 0, 100, 100);
        desk.lost(0, 0, 0, 0, 101, 101);
        desk.lost(0, 0, 0, 0, 0, 91);
        desk.lost(0, 0, 0, 0, 0, 90);
        desk.lost(0, 0, 0, 0, 0, 50000);
        CHECK.given(desk, "cost(0, 0), just FAR enough", desk.cost(0, 0), 0);
        CHECK.refused(desk, "cost(1, 0), too FAR", desk.cost(1, 0), 6);
        CHECK.refused(desk, "cost(1, 1), found ahead of it", desk.cost(1, 1), 6);
        CHECK.given(desk, "cost(0, 1), at its beginning", desk.cost(0, 1), 0);
        CHECK.given(desk, "cost(2, 0), 9 ticks behind", desk.cost(2, 0), 0);
        CHECK.given(desk, "cost(3, 0), 10 ticks behind", desk.cost(3, 0), 1);
        CHECK.given(desk, "cost(3, 1), 10 ticks behind", desk.cost(3, 1), 1);
        CHECK.given(desk, "cost(4, 0), ahead of the end", desk.cost(4, 0), 0);
        desk.way(1, 2, NONE);
        CHECK.refused(desk, "cost(3, 0) without ways", desk.cost(3, 0), 6);
        desk.found(0, 0, 0, 0, 100000);
        desk.lost(0, 0, 0, 0, 0, 0);
        CHECK.given(desk, "cost(5, 2), as late as can be", desk.cost(5, 2), 10000);
    }

    private static void costOfHandedAndGone() {
        LostDesk desk = Desks.small();
        Desks.numberedFinds(desk, 2);
        Desks.openLosses(desk, 1);
        desk.claim(0, 1, 1, 1);
        desk.hand(0, 1);
        desk.tick(200000);
        CHECK.given(desk, "cost of those HANDED", desk.cost(0, 1), 0);
        CHECK.given(desk, "cost of one GONE", desk.cost(0, 0), 0);
    }
}
