/** Promises 5 to 7. */
public final class PlacesTest {
    private static final int NONE = LostDesk.NONE;
    private static final Check CHECK = new Check();

    public static void main(String[] args) {
        place();
        way();
        far();
        farOverAllPlaces();
        CHECK.end();
    }

    private static void place() {
        LostDesk desk = new LostDesk();
        for (int place = 0; place < 20; place++) {
            CHECK.given(desk, "place()", desk.place(), place);
        }
        CHECK.refused(desk, "place(), the 21st", desk.place(), 3);
        CHECK.refused(desk, "far(0, 20)", desk.far(0, 20), 1);
        CHECK.given(desk, "far(19, 19)", desk.far(19, 19), 0);
    }

    private static void way() {
        LostDesk desk = new LostDesk();
        CHECK.denied(desk, "way without PLACES", desk.way(0, 1, 1), 1);
        desk.place();
        desk.place();
        CHECK.denied(desk, "way(0, 1, NONE) that is not", desk.way(0, 1, NONE), 7);
        CHECK.granted(desk, "way(0, 1, 1)", desk.way(0, 1, 1));
        CHECK.granted(desk, "way(0, 1, 1) again", desk.way(0, 1, 1));
        CHECK.granted(desk, "way(1, 0, 1000) in its stead", desk.way(1, 0, 1000));
        CHECK.given(desk, "far(0, 1)", desk.far(0, 1), 1000);
        CHECK.denied(desk, "way(0, 1, 1001)", desk.way(0, 1, 1001), 2);
        CHECK.denied(desk, "way(0, 1, 0)", desk.way(0, 1, 0), 2);
        CHECK.denied(desk, "way(0, 1, -2)", desk.way(0, 1, -2), 2);
        CHECK.given(desk, "far(0, 1) as before", desk.far(0, 1), 1000);
        CHECK.denied(desk, "way(0, 0, 1)", desk.way(0, 0, 1), 1);
        CHECK.denied(desk, "way(0, 0, NONE)", desk.way(0, 0, NONE), 1);
        CHECK.denied(desk, "way(0, 2, 0): 1 is before 2", desk.way(0, 2, 0), 1);
        CHECK.denied(desk, "way(-1, 0, 5)", desk.way(-1, 0, 5), 1);
        CHECK.denied(desk, "way(least, greatest, 5)", desk.way(Integer.MIN_VALUE, Integer.MAX_VALUE, 5), 1);
        CHECK.granted(desk, "way(1, 0, NONE)", desk.way(1, 0, NONE));
        CHECK.denied(desk, "way(0, 1, NONE) again", desk.way(0, 1, NONE), 7);
        CHECK.refused(desk, "far(0, 1) without ways", desk.far(0, 1), 7);
    }

    private static void far() {
        LostDesk desk = Desks.town();
        CHECK.given(desk, "far(0, 2) over 1", desk.far(0, 2), 15);
        CHECK.given(desk, "far(2, 0)", desk.far(2, 0), 15);
        desk.way(0, 2, 40);
        CHECK.given(desk, "far(0, 2) beside a longer WAY", desk.far(0, 2), 15);
        desk.way(0, 2, 14);
        CHECK.given(desk, "far(0, 2) by a shorter WAY", desk.far(0, 2), 14);
        desk.way(0, 1, NONE);
        CHECK.given(desk, "far(0, 1) the other way round", desk.far(0, 1), 19);
        CHECK.given(desk, "far(1, 1)", desk.far(1, 1), 0);
        desk.place();
        CHECK.refused(desk, "far(0, 3) to a new PLACE", desk.far(0, 3), 7);
        CHECK.given(desk, "far(3, 3) of a new PLACE", desk.far(3, 3), 0);
        CHECK.refused(desk, "far(4, 0)", desk.far(4, 0), 1);
        CHECK.refused(desk, "far(0, -1)", desk.far(0, -1), 1);
    }

    private static void farOverAllPlaces() {
        LostDesk desk = new LostDesk();
        for (int place = 0; place < 20; place++) {
            desk.place();
            if (place > 0) desk.way(place, place - 1, 1000);
        }
        CHECK.given(desk, "far(0, 19)", desk.far(0, 19), 19000);
        CHECK.given(desk, "far(19, 0)", desk.far(19, 0), 19000);
        desk.way(9, 10, NONE);
        CHECK.refused(desk, "far(0, 19) over a gap", desk.far(0, 19), 7);
        CHECK.given(desk, "far(10, 19)", desk.far(10, 19), 9000);
    }
}
