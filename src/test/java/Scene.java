import java.util.ArrayList;
import java.util.List;

/**
 * A test of one sentence of the document: a desk, and what it must answer. Each refused call is made on a new desk
 * that was told the same, which must then answer every probe as one does that never had the call.
 */
final class Scene {
    private static final int NONE = LostDesk.NONE;

    private final Check check;
    private final String sentence;
    private final CountedDesk desk = new CountedDesk();
    private final List<Call> told = new ArrayList<>();
    /** What the probes answer without a refused call; null until it is asked for behind the latest call. */
    private List<List<String>> unrefused = null;

    Scene(Check check, String sentence) {
        this.check = check;
        this.sentence = sentence;
    }

    /** A call that the test needs and that must have STATUS 0. */
    Scene tell(String name, int... numbers) {
        Call call = new Call(name, numbers);
        call.on(desk);
        due("status() behind " + call, desk.status(), 0);
        remember(call);
        return this;
    }

    /** A call that is answered so, with STATUS 0. */
    Scene gives(int want, String name, int... numbers) {
        Call call = new Call(name, numbers);
        due(call.toString(), call.on(desk), want);
        due("status() behind " + call, desk.status(), 0);
        remember(call);
        return this;
    }

    /** A call that gives NONE or false with this STATUS, and changes nothing. */
    Scene refuses(int status, String name, int... numbers) {
        refuse(status, new Call(name, numbers));
        return this;
    }

    /** Each call that has one of these in the place of the number at a position is refused. */
    Scene refusesEach(int status, int position, int[] wrong, String name, int... numbers) {
        for (int number : wrong) {
            refuse(status, new Call(name, numbers).with(position, number));
        }
        return this;
    }

    /** OUT has these and none behind them. */
    Scene out(int... want) {
        for (int k = 0; k < want.length; k++) {
            due("out(" + k + ")", desk.call("out", k), want[k]);
        }
        due("out(" + want.length + ")", desk.call("out", want.length), NONE);
        return this;
    }

    /** KIND 0 and PLACE 0. */
    Scene small() {
        return tell("kind", NONE).tell("place");
    }

    /** KINDS 0 above 1 above 2, 3 below 0; PLACES 0 to 3 with WAYS 0-1 of 10 and 1-2 of 5; COLOURS 0 and 1 NEAR. */
    Scene town() {
        small().tell("kind", 0).tell("kind", 1).tell("kind", 0);
        tell("place").tell("place").tell("place").tell("way", 0, 1, 10).tell("way", 1, 2, 5);
        return tell("near", 0, 1, 1);
    }

    /** So many FINDS more at tick 10, each with its number as MARKS. */
    Scene finds(int count) {
        for (int find = 0; find < count; find++) {
            tell("found", 0, 0, find, 0, 10);
        }
        return this;
    }

    /** So many LOSSES more, each of which CAN be all those FINDS, at COST 0. */
    Scene losses(int count) {
        for (int loss = 0; loss < count; loss++) {
            tell("lost", 0, 0, 0, 0, 0, 10);
        }
        return this;
    }

    /**
     * A town where something is told of everything. FIND 3 is GONE; 4 and 5, a BAG, are HANDED to LOSS 3; 1 and 2 are
     * a BAG; 0 and 6 have like MARKS; LOSS 4 CAN be none. On FIND 0, LOSS 0 has a RIGHT CLAIM on one MARK and LOSS 1
     * on two; that of LOSS 2 on FIND 2 is wrong. It is tick 150.
     */
    Scene busy() {
        town().tell("gap", 15).tell("keeping", 3, 1);
        tell("found", 2, 0, 5, 1, 100).tell("found", 0, NONE, 3, 0, 120).tell("found", 1, 1, 5, 2, 130);
        tell("found", 3, 5, 1, 0, 90).tell("found", 0, 0, 9, 0, 110).tell("found", 1, 2, 8, 1, 140);
        tell("found", 2, 0, 5, 1, 125);
        tell("lost", 1, 0, 1, 1, 50, 90).tell("lost", 0, NONE, 2, 0, 60, 100).tell("lost", 2, 1, 4, 2, 70, 100);
        tell("lost", 0, 0, 8, 0, 0, 100).tell("lost", 3, 7, 0, 3, 0, 10);
        tell("bag", 4, 5).tell("bag", 1, 2);
        gives(1, "claim", 3, 4, 9, 9).gives(1, "hand", 3, 4);
        gives(1, "claim", 0, 0, 1, 1).gives(1, "claim", 1, 0, 5, 5).gives(0, "claim", 2, 2, 1, 0);
        return gives(1, "tick", 150).gives(3, "reward", 0, 100, 0x010101, 0);
    }

    private void remember(Call call) {
        told.add(call);
        unrefused = null;
    }

    private void refuse(int status, Call call) {
        if (unrefused == null) unrefused = probeAll();
        for (Probe probe : Probe.values()) {
            CountedDesk other = toldTheSame();
            due(call.toString(), call.on(other), call.refusal());
            due("status() behind " + call, other.status(), status);
            compare(call, probe.answers(other), unrefused.get(probe.ordinal()));
        }
    }

    private List<List<String>> probeAll() {
        List<List<String>> all = new ArrayList<>();
        for (Probe probe : Probe.values()) {
            all.add(probe.answers(toldTheSame()));
        }
        return all;
    }

    private CountedDesk toldTheSame() {
        CountedDesk other = new CountedDesk();
        for (Call call : told) {
            call.on(other);
        }
        return other;
    }

    private void compare(Call refused, List<String> got, List<String> want) {
        for (int k = 0; k < want.size(); k++) {
            boolean same = got.get(k).equals(want.get(k));
            String change = same ? "" : " changed " + want.get(k) + " to " + got.get(k);
            due(refused + change, same ? 0 : 1, 0);
        }
    }

    private void due(String call, int got, int want) {
        if (got != want) System.out.print("\"" + sentence + "\": ");
        check.due(call, got, want);
    }
}
