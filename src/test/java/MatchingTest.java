/** Promises 12 to 15. */
public final class MatchingTest {
    private static final int NONE = LostDesk.NONE;
    private static final Check CHECK = new Check();

    public static void main(String[] args) {
        gap();
        match();
        bestIsOfAllTogether();
        firstOfSeveral();
        firstOfSeveralOverTheBench();
        matched();
        bestFollowsEachChange();
        sure();
        sureAskedInBetween();
        CHECK.end();
    }

    private static void gap() {
        LostDesk desk = Desks.small();
        Desks.openLosses(desk, 3);
        CHECK.given(desk, "match() with GAP 20 at first", desk.match(), 60);
        CHECK.granted(desk, "gap(100)", desk.gap(100));
        CHECK.given(desk, "match() with GAP 100", desk.match(), 300);
        CHECK.denied(desk, "gap(101)", desk.gap(101), 2);
        CHECK.denied(desk, "gap(-1)", desk.gap(-1), 2);
        CHECK.given(desk, "match() with GAP as before", desk.match(), 300);
        CHECK.granted(desk, "gap(0)", desk.gap(0));
        CHECK.granted(desk, "gap(0) again", desk.gap(0));
        CHECK.given(desk, "match() with GAP 0", desk.match(), 0);
    }

    private static void match() {
        LostDesk desk = Desks.small();
        CHECK.given(desk, "match() of nothing", desk.match(), 0);
        Desks.numberedFinds(desk, 3);
        CHECK.given(desk, "match() of FINDS alone", desk.match(), 0);
        desk.lost(0, NONE, 0, 0, 0, 10);
        CHECK.given(desk, "match() of one pair", desk.match(), 2);
        desk.lost(0, 0, 127, 0, 0, 10);
        CHECK.given(desk, "match() with a pair at less than GAP", desk.match(), 20);
        desk.gap(1);
        CHECK.given(desk, "match() with all pairs above GAP", desk.match(), 2);
    }

    /** Each LOSS alone would take FIND 0. */
    private static void bestIsOfAllTogether() {
        LostDesk desk = Desks.small();
        desk.found(0, 0, 3, 0, 10);
        desk.found(0, 0, 2, 0, 10);
        desk.lost(0, 0, 2, 0, 0, 10);
        desk.lost(0, 0, 1, 0, 0, 10);
        CHECK.given(desk, "match()", desk.match(), 0);
        CHECK.given(desk, "matched(0)", desk.matched(0), 1);
        CHECK.given(desk, "matched(1)", desk.matched(1), 0);
    }

    private static void firstOfSeveral() {
        LostDesk desk = Desks.small();
        for (int find = 0; find < 24; find++) {
            desk.found(0, 0, 0, 0, 10);
        }
        Desks.openLosses(desk, 24);
        CHECK.given(desk, "match()", desk.match(), 0);
        for (int loss = 0; loss < 24; loss++) {
            CHECK.given(desk, "matched in order", desk.matched(loss), loss);
        }
    }

    /** With GAP at the COST of a pair, a pair goes before none, for the first LOSS before the others. */
    private static void firstOfSeveralOverTheBench() {
        LostDesk desk = Desks.small();
        desk.gap(3);
        desk.lost(0, 0, 1, 0, 0, 10);
        desk.lost(0, 0, 1, 0, 0, 10);
        desk.lost(0, 0, 1, 0, 0, 10);
        desk.found(0, 0, 0, 0, 10);
        CHECK.given(desk, "match()", desk.match(), 9);
        CHECK.given(desk, "matched(0)", desk.matched(0), 0);
        CHECK.refused(desk, "matched(1)", desk.matched(1), 7);
        desk.found(0, 0, 0, 0, 10);
        CHECK.given(desk, "matched(1), a FIND more", desk.matched(1), 1);
        CHECK.refused(desk, "matched(2)", desk.matched(2), 7);
    }

    private static void matched() {
        LostDesk desk = Desks.small();
        CHECK.refused(desk, "matched(0) of nothing", desk.matched(0), 1);
        Desks.numberedFinds(desk, 2);
        Desks.openLosses(desk, 2);
        desk.lost(0, 0, 0, 0, 11, 11);
        CHECK.given(desk, "matched(0) without match()", desk.matched(0), 0);
        CHECK.refused(desk, "matched(2), it has none", desk.matched(2), 7);
        CHECK.refused(desk, "matched(3)", desk.matched(3), 1);
        CHECK.refused(desk, "matched(-1)", desk.matched(-1), 1);
        desk.claim(0, 1, 1, 1);
        desk.hand(0, 1);
        CHECK.refused(desk, "matched(0) HANDED", desk.matched(0), 5);
        CHECK.given(desk, "matched(1)", desk.matched(1), 0);
        CHECK.given(desk, "match() without the LOSS HANDED", desk.match(), 20);
        desk.tick(200000);
        CHECK.refused(desk, "matched(1), its FIND GONE", desk.matched(1), 7);
        CHECK.given(desk, "match() with all FINDS away", desk.match(), 40);
    }

    private static void bestFollowsEachChange() {
        LostDesk desk = Desks.town();
        desk.found(0, 0, 0, 0, 100);
        desk.lost(0, 0, 0, 1, 0, 100);
        CHECK.given(desk, "match()", desk.match(), 0);
        desk.way(0, 1, NONE);
        CHECK.given(desk, "match() without a WAY", desk.match(), 20);
        desk.way(0, 2, 3);
        CHECK.given(desk, "match() by another WAY", desk.match(), 0);
        desk.lost(0, 1, 0, 1, 0, 100);
        CHECK.given(desk, "match() of two LOSSES", desk.match(), 20);
        desk.found(0, 1, 0, 1, 100);
        CHECK.given(desk, "match() of two FINDS", desk.match(), 0);
        desk.found(3, 5, 0, 1, 100);
        desk.lost(0, 4, 0, 1, 0, 100);
        CHECK.given(desk, "match() before NEAR", desk.match(), 20);
        desk.near(4, 5, true);
        CHECK.given(desk, "match() with NEAR", desk.match(), 3);
        desk.keeping(3, 1);
        desk.tick(200);
        CHECK.given(desk, "match() with a FIND GONE", desk.match(), 20);
    }

    private static void sure() {
        LostDesk desk = Desks.small();
        desk.found(0, 0, 0, 0, 10);
        desk.lost(0, 0, 1, 0, 0, 10);
        CHECK.given(desk, "sure(0, 16): 20 is above 3 and 16", desk.sure(0, 16), 1);
        CHECK.given(desk, "sure(0, 17)", desk.sure(0, 17), 0);
        CHECK.given(desk, "sure(0, 1000)", desk.sure(0, 1000), 0);
        CHECK.refused(desk, "sure(0, 1001)", desk.sure(0, 1001), 2);
        CHECK.refused(desk, "sure(0, -1)", desk.sure(0, -1), 2);
        CHECK.refused(desk, "sure(1, -1)", desk.sure(1, -1), 1);
        CHECK.refused(desk, "sure(-1, 0)", desk.sure(-1, 0), 1);
        desk.gap(3);
        CHECK.given(desk, "sure(0, 0): none is as cheap", desk.sure(0, 0), 0);
        desk.gap(2);
        CHECK.refused(desk, "sure(0, 0) in no pair", desk.sure(0, 0), 7);
        desk.gap(20);
        desk.claim(0, 0, 1, 0);
        desk.hand(0, 0);
        CHECK.refused(desk, "sure(0, 0) HANDED", desk.sure(0, 0), 5);
        CHECK.refused(desk, "sure(0, 1001) HANDED", desk.sure(0, 1001), 2);
    }

    /** Asking for SURE looks at other MATCHINGS; BEST must be the same behind it. */
    private static void sureAskedInBetween() {
        LostDesk desk = Desks.small();
        desk.found(0, 0, 1, 0, 10);
        desk.found(0, 0, 0, 0, 10);
        desk.lost(0, 0, 1, 0, 0, 10);
        desk.lost(0, 0, 1, 0, 0, 10);
        desk.lost(0, 0, 3, 0, 0, 10);
        CHECK.given(desk, "match()", desk.match(), 23);
        CHECK.given(desk, "sure(0, 0): both are alike", desk.sure(0, 0), 0);
        CHECK.given(desk, "matched(0)", desk.matched(0), 0);
        CHECK.given(desk, "matched(1)", desk.matched(1), 1);
        CHECK.given(desk, "match() again", desk.match(), 23);
        CHECK.given(desk, "sure(1, 0)", desk.sure(1, 0), 0);
        CHECK.given(desk, "matched(0) again", desk.matched(0), 0);
    }
}
