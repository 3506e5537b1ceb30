/** Promises 24 and 25. */
public final class RewardTest {
    private static final int NONE = LostDesk.NONE;
    private static final Check CHECK = new Check();

    public static void main(String[] args) {
        reward();
        wrongRewards();
        rewardForThoseAway();
        out();
        CHECK.end();
    }

    private static void pays(LostDesk desk, int pennies, int first, int second, int... due) {
        String call = "reward(0, " + pennies + ", " + first + ", " + second + ")";
        CHECK.given(desk, call, desk.reward(0, pennies, first, second), due.length);
        for (int k = 0; k < due.length; k++) {
            CHECK.due("out(" + k + ") behind " + call, desk.out(k), due[k]);
        }
        CHECK.due("out behind the last of " + call, desk.out(due.length), NONE);
    }

    private static void reward() {
        LostDesk desk = Desks.small();
        Desks.numberedFinds(desk, 1);
        pays(desk, 100, 0x010101, 0, 34, 33, 33);
        pays(desk, 7, 0x0302, 0, 3, 4);
        pays(desk, 0, 5, 0, 0);
        pays(desk, 1000000, 100, 0, 1000000);
        pays(desk, 1000000, 0x64646464, 0x64646464, 125000, 125000, 125000, 125000, 125000, 125000, 125000, 125000);
        pays(desk, 7, 0x01010101, 0x01010101, 1, 1, 1, 1, 1, 1, 1, 0);
        pays(desk, 1000000, 0x01010164, 0x01010101, 934580, 9346, 9346, 9346, 9346, 9346, 9345, 9345);
        pays(desk, 5, 0x01010101, 2, 1, 1, 1, 1, 1);
        pays(desk, 10, 0x03010101, 0, 2, 2, 1, 5);
    }

    private static void wrongRewards() {
        LostDesk desk = Desks.small();
        CHECK.refused(desk, "reward without FINDS", desk.reward(0, 1, 1, 0), 1);
        Desks.numberedFinds(desk, 1);
        desk.reward(0, 9, 0x0102, 0);
        CHECK.refused(desk, "reward(1, -1)", desk.reward(1, -1, 0, 0), 1);
        CHECK.refused(desk, "reward(-1)", desk.reward(-1, 1, 1, 0), 1);
        CHECK.refused(desk, "reward of -1", desk.reward(0, -1, 1, 0), 2);
        CHECK.refused(desk, "reward of 1000001", desk.reward(0, 1000001, 1, 0), 2);
        CHECK.refused(desk, "reward to none", desk.reward(0, 1, 0, 0), 2);
        CHECK.refused(desk, "a share of 101", desk.reward(0, 1, 101, 0), 2);
        CHECK.refused(desk, "a share of 255 at the top", desk.reward(0, 1, 0xff010101, 0), 2);
        CHECK.refused(desk, "a share of 101 at the last", desk.reward(0, 1, 0x01010101, 0x65010101), 2);
        CHECK.refused(desk, "a share behind a 0", desk.reward(0, 1, 0x010001, 0), 2);
        CHECK.refused(desk, "a share behind a first 0", desk.reward(0, 1, 0x0100, 0), 2);
        CHECK.refused(desk, "a second number behind a 0", desk.reward(0, 1, 0x010101, 1), 2);
        CHECK.refused(desk, "only a second number", desk.reward(0, 1, 0, 1), 2);
        CHECK.due("out(0) as before", desk.out(0), 6);
        CHECK.due("out(1) as before", desk.out(1), 3);
        CHECK.due("out(2) as before", desk.out(2), NONE);
    }

    private static void rewardForThoseAway() {
        LostDesk desk = Desks.small();
        Desks.numberedFinds(desk, 2);
        Desks.openLosses(desk, 1);
        desk.claim(0, 1, 1, 1);
        desk.hand(0, 1);
        desk.tick(200000);
        CHECK.given(desk, "reward for one GONE", desk.reward(0, 1, 1, 0), 1);
        CHECK.given(desk, "reward for one HANDED", desk.reward(1, 1, 1, 0), 1);
    }

    private static void out() {
        LostDesk desk = Desks.small();
        Desks.numberedFinds(desk, 1);
        CHECK.due("out(0) of nothing", desk.out(0), NONE);
        desk.reward(0, 8, 0x01010101, 0x01010101);
        CHECK.due("out(7)", desk.out(7), 1);
        CHECK.due("out(8)", desk.out(8), NONE);
        CHECK.due("out(-1)", desk.out(-1), NONE);
        CHECK.due("out(least)", desk.out(Integer.MIN_VALUE), NONE);
        CHECK.due("out(greatest)", desk.out(Integer.MAX_VALUE), NONE);
        desk.reward(0, 8, 1, 0);
        CHECK.due("out(0) of a shorter OUT", desk.out(0), 8);
        CHECK.due("out(1) of a shorter OUT", desk.out(1), NONE);
        desk.kind(99);
        CHECK.due("out(99)", desk.out(99), NONE);
        CHECK.due("status() behind out()", desk.status(), 1);
        desk.match();
        CHECK.due("out(0) behind other calls", desk.out(0), 8);
    }
}
