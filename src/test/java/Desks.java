/** Desks that several tests begin with. */
final class Desks {
    private Desks() {
    }

    /** KIND 0 and PLACE 0. */
    static LostDesk small() {
        LostDesk desk = new LostDesk();
        desk.kind(LostDesk.NONE);
        desk.place();
        return desk;
    }

    /** KINDS 0 above 1 above 2, 3 below 0; PLACES 0, 1, 2 with WAYS 0-1 of 10 and 1-2 of 5; COLOURS 0 and 1 NEAR. */
    static LostDesk town() {
        LostDesk desk = small();
        desk.kind(0);
        desk.kind(1);
        desk.kind(0);
        desk.place();
        desk.place();
        desk.way(0, 1, 10);
        desk.way(1, 2, 5);
        desk.near(0, 1, true);
        return desk;
    }

    /** Tells so many FINDS of KIND 0 at tick 10, each with its number as MARKS. */
    static void numberedFinds(LostDesk desk, int count) {
        for (int find = 0; find < count; find++) {
            desk.found(0, 0, find, 0, 10);
        }
    }

    /** Tells so many LOSSES, each of which CAN be any of the numbered FINDS at COST 0. */
    static void openLosses(LostDesk desk, int count) {
        for (int loss = 0; loss < count; loss++) {
            desk.lost(0, 0, 0, 0, 0, 10);
        }
    }
}
