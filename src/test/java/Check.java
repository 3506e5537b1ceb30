/** Counts the answers that are not as due, and ends a test with 1 if there was one. */
final class Check {
    private int calls = 0;
    private int wrong = 0;

    void due(String call, long got, long want) {
        calls++;
        if (got != want) {
            wrong++;
            System.out.println(call + " answered " + got + ", due is " + want);
        }
    }

    /** An answer that is given: STATUS is 0 behind it. */
    void given(LostDesk desk, String call, int got, int want) {
        due(call, got, want);
        due("status() behind " + call, desk.status(), 0);
    }

    void granted(LostDesk desk, String call, boolean got) {
        given(desk, call, got ? 1 : 0, 1);
    }

    /** An answer that is not given: NONE, with the STATUS that says why. */
    void refused(LostDesk desk, String call, int got, int status) {
        due(call, got, LostDesk.NONE);
        due("status() behind " + call, desk.status(), status);
    }

    void denied(LostDesk desk, String call, boolean got, int status) {
        due(call, got ? 1 : 0, 0);
        due("status() behind " + call, desk.status(), status);
    }

    void end() {
        System.out.println(calls + " answers, " + wrong + " not as due");
        if (wrong != 0) System.exit(1);
    }
}
