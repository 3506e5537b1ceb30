/** A LostDesk that is called by name, within the 512 calls of the document; a boolean counts 1 or 0. */
final class CountedDesk {
    private static final int MOST_CALLS = 512;

    private final LostDesk desk = new LostDesk();
    private int calls = 0;

    int status() {
        return call("status");
    }

    int call(String name, int... a) {
        calls++;
        if (calls > MOST_CALLS) throw new IllegalStateException("a test makes more than 512 calls on one object");
        return switch (name) {
            case "status" -> desk.status();
            case "kind" -> desk.kind(a[0]);
            case "near" -> count(desk.near(a[0], a[1], a[2] == 1));
            case "place" -> desk.place();
            case "way" -> count(desk.way(a[0], a[1], a[2]));
            case "far" -> desk.far(a[0], a[1]);
            case "found" -> desk.found(a[0], a[1], a[2], a[3], a[4]);
            case "lost" -> desk.lost(a[0], a[1], a[2], a[3], a[4], a[5]);
            case "told" -> desk.told(a[0], a[1]);
            case "cost" -> desk.cost(a[0], a[1]);
            case "gap" -> count(desk.gap(a[0]));
            case "match" -> desk.match();
            case "matched" -> desk.matched(a[0]);
            case "sure" -> desk.sure(a[0], a[1]);
            case "alike" -> desk.alike(a[0], a[1]);
            case "questions" -> desk.questions(a[0], a[1]);
            case "claim" -> desk.claim(a[0], a[1], a[2], a[3]);
            case "hand" -> count(desk.hand(a[0], a[1]));
            case "bag" -> count(desk.bag(a[0], a[1]));
            case "keeping" -> count(desk.keeping(a[0], a[1]));
            case "due" -> desk.due(a[0]);
            case "tick" -> desk.tick(a[0]);
            case "reward" -> desk.reward(a[0], a[1], a[2], a[3]);
            case "out" -> desk.out(a[0]);
            default -> throw new IllegalArgumentException(name);
        };
    }

    private static int count(boolean is) {
        return is ? 1 : 0;
    }
}
