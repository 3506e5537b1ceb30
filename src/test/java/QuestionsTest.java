/** Promises 16 and 17. */
public final class QuestionsTest {
    private static final Check CHECK = new Check();

    public static void main(String[] args) {
        alike();
        alikeByKinds();
        questions();
        fewestBeforeLeast();
        allMarksAreNeeded();
        CHECK.end();
    }

    private static void alike() {
        LostDesk desk = Desks.small();
        Desks.numberedFinds(desk, 8);
        CHECK.given(desk, "alike(0, 0)", desk.alike(0, 0), 8);
        CHECK.given(desk, "alike(5, 1)", desk.alike(5, 1), 4);
        CHECK.given(desk, "alike(5, 5)", desk.alike(5, 5), 2);
        CHECK.given(desk, "alike(0, 6): just those, not more", desk.alike(0, 6), 2);
        CHECK.given(desk, "alike(5, 65535)", desk.alike(5, 65535), 1);
        CHECK.refused(desk, "alike(0, 65536)", desk.alike(0, 65536), 2);
        CHECK.refused(desk, "alike(0, -1)", desk.alike(0, -1), 2);
        CHECK.refused(desk, "alike(8, -1)", desk.alike(8, -1), 1);
        CHECK.refused(desk, "alike(-1, 0)", desk.alike(-1, 0), 1);
        Desks.openLosses(desk, 1);
        desk.claim(0, 7, 1, 1);
        desk.hand(0, 7);
        CHECK.given(desk, "alike(5, 1) without the one HANDED", desk.alike(5, 1), 3);
        CHECK.refused(desk, "alike(7, 0) HANDED", desk.alike(7, 0), 5);
        CHECK.refused(desk, "alike(7, 65536) HANDED", desk.alike(7, 65536), 2);
        desk.tick(200000);
        CHECK.refused(desk, "alike(0, 0) GONE", desk.alike(0, 0), 5);
        desk.found(0, 0, 1, 0, 10);
        CHECK.given(desk, "alike(8, 0) without those GONE", desk.alike(8, 0), 1);
    }

    private static void alikeByKinds() {
        LostDesk desk = Desks.town();
        for (int kind = 0; kind < 4; kind++) {
            desk.found(kind, kind, 1, kind % 3, kind);
        }
        CHECK.given(desk, "alike(0, 1), all are below", desk.alike(0, 1), 4);
        CHECK.given(desk, "alike(1, 1), above and below", desk.alike(1, 1), 3);
        CHECK.given(desk, "alike(2, 1), above", desk.alike(2, 1), 3);
        CHECK.given(desk, "alike(3, 1), not those beside", desk.alike(3, 1), 2);
    }

    private static void questions() {
        LostDesk desk = Desks.small();
        Desks.numberedFinds(desk, 8);
        CHECK.given(desk, "questions(5, 24)", desk.questions(5, 24), 0);
        CHECK.given(desk, "questions(5, 8)", desk.questions(5, 8), 0);
        CHECK.given(desk, "questions(5, 7)", desk.questions(5, 7), 1);
        CHECK.given(desk, "questions(5, 4)", desk.questions(5, 4), 1);
        CHECK.given(desk, "questions(5, 3)", desk.questions(5, 3), 3);
        CHECK.given(desk, "questions(5, 1)", desk.questions(5, 1), 7);
        CHECK.refused(desk, "questions(5, 0)", desk.questions(5, 0), 2);
        CHECK.refused(desk, "questions(5, 25)", desk.questions(5, 25), 2);
        CHECK.refused(desk, "questions(8, 0)", desk.questions(8, 0), 1);
        CHECK.refused(desk, "questions(-1, 1)", desk.questions(-1, 1), 1);
        desk.found(0, 0, 5, 0, 10);
        CHECK.refused(desk, "questions(5, 1) with one alike in all", desk.questions(5, 1), 7);
        CHECK.given(desk, "questions(5, 2) with one alike in all", desk.questions(5, 2), 7);
        desk.tick(200000);
        CHECK.refused(desk, "questions(5, 1) GONE", desk.questions(5, 1), 5);
        CHECK.refused(desk, "questions(5, 0) GONE", desk.questions(5, 0), 2);
        desk.found(0, 0, 65535, 0, 0);
        CHECK.given(desk, "questions(9, 1) alone", desk.questions(9, 1), 0);
    }

    /** One high MARK does what two low ones would; of two high ones the lower is it. */
    private static void fewestBeforeLeast() {
        LostDesk desk = Desks.small();
        desk.found(0, 0, 0, 0, 0);
        desk.found(0, 0, 1 + 32768 + 16384, 0, 0);
        desk.found(0, 0, 2 + 32768 + 16384, 0, 0);
        CHECK.given(desk, "questions(0, 1)", desk.questions(0, 1), 16384);
        CHECK.given(desk, "questions(0, 2)", desk.questions(0, 2), 1);
        CHECK.given(desk, "questions(1, 1)", desk.questions(1, 1), 1);
    }

    private static void allMarksAreNeeded() {
        LostDesk desk = Desks.small();
        desk.found(0, 0, 0, 0, 0);
        for (int mark = 0; mark < 16; mark++) {
            desk.found(0, 0, 1 << mark, 0, 0);
        }
        CHECK.given(desk, "questions(0, 1)", desk.questions(0, 1), 65535);
        CHECK.given(desk, "questions(0, 2)", desk.questions(0, 2), 32767);
        CHECK.given(desk, "questions(1, 1)", desk.questions(1, 1), 1);
    }
}
