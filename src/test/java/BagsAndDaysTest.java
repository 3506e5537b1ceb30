/** Promises 20 to 23. */
public final class BagsAndDaysTest {
    private static final int NONE = LostDesk.NONE;
    private static final Check CHECK = new Check();

    public static void main(String[] args) {
        bag();
        bagsOfThoseAway();
        keeping();
        due();
        tick();
        goneTogether();
        CHECK.end();
    }

    private static void bag() {
        LostDesk desk = Desks.small();
        Desks.numberedFinds(desk, 6);
        CHECK.granted(desk, "bag(5, 4)", desk.bag(5, 4));
        CHECK.denied(desk, "bag(4, 5) again", desk.bag(4, 5), 4);
        CHECK.denied(desk, "bag(1, 1)", desk.bag(1, 1), 4);
        CHECK.granted(desk, "bag(2, 3)", desk.bag(2, 3));
        CHECK.granted(desk, "bag(5, 3)", desk.bag(5, 3));
        CHECK.denied(desk, "bag(2, 4) over others", desk.bag(2, 4), 4);
        CHECK.given(desk, "told(5, 6)", desk.told(5, 6), 2);
        CHECK.given(desk, "told(1, 6)", desk.told(1, 6), 1);
        CHECK.granted(desk, "bag(4, 0)", desk.bag(4, 0));
        CHECK.given(desk, "told(5, 6) with a lesser one", desk.told(5, 6), 0);
        CHECK.denied(desk, "bag(6, 6)", desk.bag(6, 6), 1);
        CHECK.denied(desk, "bag(0, -1)", desk.bag(0, -1), 1);
    }

    private static void bagsOfThoseAway() {
        LostDesk desk = Desks.small();
        Desks.numberedFinds(desk, 4);
        Desks.openLosses(desk, 1);
        desk.bag(0, 1);
        desk.claim(0, 1, 1, 1);
        desk.hand(0, 1);
        CHECK.denied(desk, "bag(0, 2) with one HANDED", desk.bag(0, 2), 5);
        CHECK.denied(desk, "bag(2, 0) with one HANDED", desk.bag(2, 0), 5);
        CHECK.denied(desk, "bag(0, 1), HANDED, one BAG already", desk.bag(0, 1), 4);
        desk.tick(200000);
        CHECK.denied(desk, "bag(2, 3) GONE", desk.bag(2, 3), 5);
        CHECK.denied(desk, "bag(2, 2) GONE, like ones", desk.bag(2, 2), 4);
    }

    private static void keeping() {
        LostDesk desk = Desks.town();
        desk.found(2, 0, 0, 0, 0);
        CHECK.granted(desk, "keeping(0, 1000)", desk.keeping(0, 1000));
        CHECK.given(desk, "due(0) by KIND 0", desk.due(0), 24000);
        CHECK.granted(desk, "keeping(1, 2)", desk.keeping(1, 2));
        CHECK.given(desk, "due(0) by KIND 1", desk.due(0), 48);
        CHECK.granted(desk, "keeping(1, 2) again", desk.keeping(1, 2));
        CHECK.granted(desk, "keeping(3, 1) beside it", desk.keeping(3, 1));
        CHECK.given(desk, "due(0) as before", desk.due(0), 48);
        CHECK.granted(desk, "keeping(2, 1)", desk.keeping(2, 1));
        CHECK.given(desk, "due(0) by its own KIND", desk.due(0), 24);
        CHECK.denied(desk, "keeping(2, 0)", desk.keeping(2, 0), 2);
        CHECK.denied(desk, "keeping(2, 1001)", desk.keeping(2, 1001), 2);
        CHECK.denied(desk, "keeping(2, -2)", desk.keeping(2, -2), 2);
        CHECK.denied(desk, "keeping(4, 0)", desk.keeping(4, 0), 1);
        CHECK.denied(desk, "keeping(-1, 5)", desk.keeping(-1, 5), 1);
        CHECK.granted(desk, "keeping(2, NONE)", desk.keeping(2, NONE));
        CHECK.granted(desk, "keeping(2, NONE) again", desk.keeping(2, NONE));
        CHECK.given(desk, "due(0) by KIND 1 again", desk.due(0), 48);
        desk.keeping(1, NONE);
        desk.keeping(0, NONE);
        CHECK.given(desk, "due(0) by 30 days", desk.due(0), 720);
    }

    private static void due() {
        LostDesk desk = Desks.town();
        desk.found(2, 0, 0, 0, 100);
        desk.found(0, 0, 0, 0, 50);
        CHECK.given(desk, "due(0)", desk.due(0), 820);
        CHECK.given(desk, "due(1)", desk.due(1), 770);
        desk.bag(0, 1);
        CHECK.given(desk, "due(1) in a BAG", desk.due(1), 820);
        desk.keeping(2, 1);
        CHECK.given(desk, "due(0), the greatest of its BAG", desk.due(0), 770);
        CHECK.refused(desk, "due(2)", desk.due(2), 1);
        CHECK.refused(desk, "due(-1)", desk.due(-1), 1);
        desk.tick(200000);
        CHECK.given(desk, "due(0) GONE", desk.due(0), 770);
        desk.keeping(0, 1000);
        desk.found(0, 0, 0, 0, 100000);
        CHECK.given(desk, "due(2), the latest that can be", desk.due(2), 124000);
    }

    private static void tick() {
        LostDesk desk = Desks.small();
        desk.found(0, 0, 0, 0, 0);
        desk.found(0, 0, 0, 0, 1);
        CHECK.given(desk, "tick(720) at DUE", desk.tick(720), 0);
        CHECK.given(desk, "tick(721) behind DUE", desk.tick(721), 1);
        CHECK.given(desk, "tick(721) again", desk.tick(721), 0);
        CHECK.refused(desk, "tick(720)", desk.tick(720), 2);
        CHECK.refused(desk, "tick(-1)", desk.tick(-1), 2);
        CHECK.refused(desk, "tick(200001)", desk.tick(200001), 2);
        CHECK.given(desk, "told(1, 4) behind refused calls", desk.told(1, 4), 0);
        desk.keeping(0, 1);
        CHECK.given(desk, "told(1, 4) until a tick is told", desk.told(1, 4), 0);
        CHECK.given(desk, "tick(721) with less KEEPING", desk.tick(721), 1);
        desk.found(0, 0, 0, 0, 5);
        CHECK.given(desk, "told(2, 4), found long ago", desk.told(2, 4), 0);
        CHECK.given(desk, "tick(200000)", desk.tick(200000), 1);
        CHECK.given(desk, "tick(200000) again", desk.tick(200000), 0);
        CHECK.refused(desk, "tick(greatest)", desk.tick(Integer.MAX_VALUE), 2);
    }

    private static void goneTogether() {
        LostDesk desk = Desks.small();
        Desks.openLosses(desk, 1);
        desk.found(0, 0, 1, 0, 10);
        desk.found(0, 0, 1, 0, 500);
        desk.found(0, 0, 1, 0, 10);
        desk.found(0, 0, 1, 0, 10);
        desk.bag(0, 1);
        desk.claim(0, 3, 1, 1);
        desk.hand(0, 3);
        CHECK.given(desk, "tick(731): the BAG waits", desk.tick(731), 1);
        CHECK.given(desk, "told(2, 4)", desk.told(2, 4), 2);
        CHECK.given(desk, "told(0, 4)", desk.told(0, 4), 0);
        CHECK.given(desk, "tick(1221): the BAG is GONE", desk.tick(1221), 2);
        CHECK.given(desk, "told(0, 4)", desk.told(0, 4), 2);
        CHECK.given(desk, "told(1, 4)", desk.told(1, 4), 2);
        CHECK.given(desk, "told(3, 4): HANDED is not GONE", desk.told(3, 4), 1);
    }
}
