/** Promises 18 and 19. */
public final class ClaimsTest {
    private static final int NONE = LostDesk.NONE;
    private static final Check CHECK = new Check();

    public static void main(String[] args) {
        claim();
        claimOnThoseAway();
        claimOnWhatCannotBe();
        hand();
        handAgainstOthers();
        handOfABag();
        handAfterTheWaysHaveGone();
        CHECK.end();
    }

    private static void claim() {
        LostDesk desk = Desks.small();
        Desks.numberedFinds(desk, 8);
        Desks.openLosses(desk, 3);
        CHECK.given(desk, "claim(0, 5, 7, 5)", desk.claim(0, 5, 7, 5), 1);
        CHECK.given(desk, "claim(1, 5, 7, 1), too few", desk.claim(1, 5, 7, 1), 0);
        CHECK.given(desk, "claim(2, 5, 7, 7), too many", desk.claim(2, 5, 7, 7), 0);
        CHECK.refused(desk, "claim(1, 5, 7, 5) again", desk.claim(1, 5, 7, 5), 4);
        CHECK.refused(desk, "claim(0, 5, 0, 0), CLAIMED", desk.claim(0, 5, 0, 0), 2);
        CHECK.given(desk, "claim(0, 4, 2, 0), MARKS that it has not", desk.claim(0, 4, 2, 0), 1);
        CHECK.given(desk, "claim(0, 3, 65535, 3)", desk.claim(0, 3, 65535, 3), 1);
        CHECK.refused(desk, "claim(0, 6, 0, 0)", desk.claim(0, 6, 0, 0), 2);
        CHECK.refused(desk, "claim(0, 6, 65536, 0)", desk.claim(0, 6, 65536, 0), 2);
        CHECK.refused(desk, "claim(0, 6, -1, 0)", desk.claim(0, 6, -1, 0), 2);
        CHECK.refused(desk, "claim(0, 6, 2, 4)", desk.claim(0, 6, 2, 4), 2);
        CHECK.refused(desk, "claim(0, 6, 2, 6)", desk.claim(0, 6, 2, 6), 2);
        CHECK.refused(desk, "claim(0, 6, 2, -1)", desk.claim(0, 6, 2, -1), 2);
        CHECK.given(desk, "claim(0, 6, 2, 2), none before counted", desk.claim(0, 6, 2, 2), 1);
        CHECK.refused(desk, "claim(3, 0, 0, 0)", desk.claim(3, 0, 0, 0), 1);
        CHECK.refused(desk, "claim(0, 8, 1, 1)", desk.claim(0, 8, 1, 1), 1);
        CHECK.refused(desk, "claim(-1, -1, 1, 1)", desk.claim(-1, -1, 1, 1), 1);
    }

    private static void claimOnThoseAway() {
        LostDesk desk = Desks.small();
        Desks.numberedFinds(desk, 3);
        Desks.openLosses(desk, 2);
        desk.claim(0, 1, 1, 1);
        desk.hand(0, 1);
        CHECK.refused(desk, "claim by a LOSS HANDED", desk.claim(0, 2, 1, 0), 5);
        CHECK.refused(desk, "claim on a FIND HANDED", desk.claim(1, 1, 1, 1), 5);
        CHECK.refused(desk, "claim again, HANDED", desk.claim(0, 1, 1, 1), 4);
        desk.tick(200000);
        CHECK.refused(desk, "claim on a FIND GONE", desk.claim(1, 2, 1, 0), 5);
    }

    private static void claimOnWhatCannotBe() {
        LostDesk desk = Desks.town();
        desk.found(2, 0, 1, 0, 10);
        desk.lost(3, 0, 0, 0, 0, 0);
        desk.lost(2, 5, 0, 0, 0, 0);
        desk.lost(2, 0, 0, 0, 11, 11);
        desk.lost(2, 0, 0, 2, 0, 0);
        for (int loss = 0; loss < 4; loss++) {
            CHECK.refused(desk, "claim by LOSS " + loss, desk.claim(loss, 0, 1, 1), 6);
        }
        desk.way(1, 0, NONE);
        desk.way(0, 2, 10);
        CHECK.given(desk, "claim by a WAY", desk.claim(3, 0, 1, 1), 1);
    }

    private static void hand() {
        LostDesk desk = Desks.small();
        Desks.numberedFinds(desk, 2);
        Desks.openLosses(desk, 2);
        CHECK.denied(desk, "hand(0, 1) without a CLAIM", desk.hand(0, 1), 7);
        desk.claim(0, 1, 1, 0);
        CHECK.denied(desk, "hand(0, 1) with a wrong CLAIM", desk.hand(0, 1), 7);
        desk.claim(1, 1, 2, 0);
        CHECK.granted(desk, "hand(1, 1)", desk.hand(1, 1));
        CHECK.given(desk, "told(1, 4)", desk.told(1, 4), 1);
        CHECK.given(desk, "told(1, 5)", desk.told(1, 5), 1);
        CHECK.given(desk, "told(0, 4)", desk.told(0, 4), 0);
        CHECK.denied(desk, "hand(1, 1) again", desk.hand(1, 1), 5);
        CHECK.denied(desk, "hand(0, 1), the FIND HANDED", desk.hand(0, 1), 5);
        CHECK.denied(desk, "hand(1, 0), the LOSS HANDED", desk.hand(1, 0), 5);
        CHECK.denied(desk, "hand(2, 0)", desk.hand(2, 0), 1);
        CHECK.denied(desk, "hand(0, 2)", desk.hand(0, 2), 1);
        CHECK.denied(desk, "hand(-1, 0)", desk.hand(-1, 0), 1);
        desk.claim(0, 0, 1, 0);
        desk.tick(200000);
        CHECK.denied(desk, "hand(0, 0), the FIND GONE", desk.hand(0, 0), 5);
    }

    private static void handAgainstOthers() {
        LostDesk desk = Desks.small();
        Desks.numberedFinds(desk, 4);
        Desks.openLosses(desk, 4);
        desk.claim(0, 3, 3, 3);
        desk.claim(1, 3, 12, 0);
        desk.claim(2, 3, 7, 0);
        CHECK.denied(desk, "hand(0, 3) against as many MARKS", desk.hand(0, 3), 8);
        CHECK.denied(desk, "hand(1, 3) against as many MARKS", desk.hand(1, 3), 8);
        CHECK.denied(desk, "hand(2, 3), wrong", desk.hand(2, 3), 7);
        desk.claim(3, 3, 7, 3);
        CHECK.denied(desk, "hand(0, 3) against more MARKS", desk.hand(0, 3), 8);
        desk.claim(3, 1, 1, 1);
        CHECK.granted(desk, "hand(3, 1)", desk.hand(3, 1));
        CHECK.denied(desk, "hand(0, 3), LOSS 1 is still there", desk.hand(0, 3), 8);
        desk.claim(1, 2, 2, 2);
        CHECK.granted(desk, "hand(1, 2)", desk.hand(1, 2));
        CHECK.granted(desk, "hand(0, 3) when the others are HANDED", desk.hand(0, 3));
        LostDesk more = Desks.small();
        Desks.numberedFinds(more, 4);
        Desks.openLosses(more, 2);
        more.claim(0, 3, 3, 3);
        more.claim(1, 3, 7, 3);
        CHECK.granted(more, "hand(1, 3) on more MARKS", more.hand(1, 3));
    }

    private static void handOfABag() {
        LostDesk desk = Desks.small();
        Desks.numberedFinds(desk, 5);
        Desks.openLosses(desk, 2);
        desk.bag(1, 2);
        desk.bag(3, 2);
        desk.claim(0, 1, 1, 1);
        desk.claim(1, 3, 1, 1);
        CHECK.granted(desk, "hand(0, 1) with its BAG", desk.hand(0, 1));
        for (int find = 1; find < 4; find++) {
            CHECK.given(desk, "told(find, 4)", desk.told(find, 4), 1);
            CHECK.given(desk, "told(find, 5)", desk.told(find, 5), 0);
        }
        CHECK.given(desk, "told(4, 4)", desk.told(4, 4), 0);
        CHECK.denied(desk, "hand(1, 3)", desk.hand(1, 3), 5);
        CHECK.given(desk, "matched(1): a LOSS is HANDED one by one", desk.matched(1), 0);
    }

    private static void handAfterTheWaysHaveGone() {
        LostDesk desk = Desks.town();
        desk.found(0, 0, 1, 0, 10);
        desk.lost(0, 0, 0, 1, 0, 0);
        desk.claim(0, 0, 1, 1);
        desk.way(0, 1, NONE);
        CHECK.refused(desk, "cost(0, 0) without ways", desk.cost(0, 0), 6);
        CHECK.granted(desk, "hand(0, 0): a CLAIM stays", desk.hand(0, 0));
    }
}
