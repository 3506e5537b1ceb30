/** Promises 1 to 4. */
public final class KindsAndColoursTest {
    private static final int NONE = LostDesk.NONE;
    private static final Check CHECK = new Check();

    public static void main(String[] args) {
        newObject();
        status();
        kind();
        kindsAreForty();
        near();
        CHECK.end();
    }

    private static void newObject() {
        LostDesk desk = new LostDesk();
        CHECK.due("NONE", NONE, -1);
        CHECK.due("status() at first", desk.status(), 0);
        CHECK.due("out(0) at first", desk.out(0), NONE);
        CHECK.due("status() behind out", desk.status(), 0);
        CHECK.given(desk, "match() at first", desk.match(), 0);
        CHECK.refused(desk, "told(0, 0) at first", desk.told(0, 0), 1);
        CHECK.refused(desk, "matched(0) at first", desk.matched(0), 1);
        CHECK.refused(desk, "far(0, 0) at first", desk.far(0, 0), 1);
        CHECK.refused(desk, "keeping at first", desk.keeping(0, 1) ? 1 : NONE, 1);
        CHECK.denied(desk, "near(3, 4, false) at first", desk.near(3, 4, false), 4);
        CHECK.given(desk, "tick(0) at first", desk.tick(0), 0);
        LostDesk other = new LostDesk();
        desk.kind(NONE);
        CHECK.refused(other, "kind(0) on another object", other.kind(0), 1);
    }

    private static void status() {
        LostDesk desk = new LostDesk();
        desk.kind(5);
        CHECK.due("status()", desk.status(), 1);
        CHECK.due("status() again", desk.status(), 1);
        desk.out(0);
        CHECK.due("status() behind out()", desk.status(), 1);
        desk.gap(101);
        CHECK.due("status() of the latest call", desk.status(), 2);
        desk.gap(100);
        CHECK.due("status() of a call that is fine", desk.status(), 0);
    }

    private static void kind() {
        LostDesk desk = new LostDesk();
        CHECK.refused(desk, "kind(0) with none above", desk.kind(0), 1);
        CHECK.given(desk, "kind(NONE)", desk.kind(NONE), 0);
        CHECK.refused(desk, "kind(NONE) again", desk.kind(NONE), 1);
        CHECK.refused(desk, "kind(1) below itself", desk.kind(1), 1);
        CHECK.refused(desk, "kind(-2)", desk.kind(-2), 1);
        CHECK.refused(desk, "kind(least)", desk.kind(Integer.MIN_VALUE), 1);
        CHECK.refused(desk, "kind(greatest)", desk.kind(Integer.MAX_VALUE), 1);
        CHECK.given(desk, "kind(0)", desk.kind(0), 1);
        CHECK.given(desk, "kind(1)", desk.kind(1), 2);
        CHECK.given(desk, "kind(0) for the second one", desk.kind(0), 3);
    }

    private static void kindsAreForty() {
        LostDesk desk = Desks.small();
        for (int kind = 1; kind < 40; kind++) {
            CHECK.given(desk, "kind in one LINE", desk.kind(kind - 1), kind);
        }
        CHECK.refused(desk, "kind(39), the 41st", desk.kind(39), 3);
        CHECK.refused(desk, "kind(NONE) when full", desk.kind(NONE), 1);
        CHECK.refused(desk, "kind(40) when full", desk.kind(40), 1);
        desk.found(39, NONE, 0, 0, 0);
        desk.lost(0, NONE, 0, 0, 0, 0);
        CHECK.given(desk, "cost over 39 steps", desk.cost(0, 0), 78);
        desk.keeping(0, 3);
        CHECK.given(desk, "due by the KEEPING 39 steps above", desk.due(0), 72);
    }

    private static void near() {
        LostDesk desk = new LostDesk();
        CHECK.denied(desk, "near(0, 1, false)", desk.near(0, 1, false), 4);
        CHECK.granted(desk, "near(0, 1, true)", desk.near(0, 1, true));
        CHECK.denied(desk, "near(0, 1, true) again", desk.near(0, 1, true), 4);
        CHECK.denied(desk, "near(1, 0, true) again", desk.near(1, 0, true), 4);
        CHECK.granted(desk, "near(1, 0, false)", desk.near(1, 0, false));
        CHECK.denied(desk, "near(0, 1, false) again", desk.near(0, 1, false), 4);
        CHECK.granted(desk, "near(11, 0, true)", desk.near(11, 0, true));
        CHECK.denied(desk, "near(12, 0, true)", desk.near(12, 0, true), 2);
        CHECK.denied(desk, "near(0, 12, true)", desk.near(0, 12, true), 2);
        CHECK.denied(desk, "near(-1, 0, true)", desk.near(-1, 0, true), 2);
        CHECK.denied(desk, "near(0, -1, false)", desk.near(0, -1, false), 2);
        CHECK.denied(desk, "near(5, 5, true)", desk.near(5, 5, true), 2);
        CHECK.denied(desk, "near(5, 5, false)", desk.near(5, 5, false), 2);
        CHECK.denied(desk, "near(least, greatest)", desk.near(Integer.MIN_VALUE, Integer.MAX_VALUE, true), 2);
        desk.near(0, 1, true);
        desk.near(1, 2, true);
        CHECK.denied(desk, "near(0, 2, false): NEAR does not go over others", desk.near(0, 2, false), 4);
    }
}
