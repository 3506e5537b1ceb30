import java.util.List;

/** A call of a LostDesk: its name and its numbers. */
final class Call {
    private static final List<String> YES_OR_NO = List.of("near", "way", "gap", "hand", "bag", "keeping");

    private final String name;
    private final int[] numbers;

    Call(String name, int... numbers) {
        this.name = name;
        this.numbers = numbers.clone();
    }

    /** The same call with another number at a position. */
    Call with(int position, int number) {
        Call other = new Call(name, numbers);
        other.numbers[position] = number;
        return other;
    }

    int on(CountedDesk desk) {
        return desk.call(name, numbers);
    }

    /** What the call gives if it is refused: NONE, or false. */
    int refusal() {
        return YES_OR_NO.contains(name) ? 0 : LostDesk.NONE;
    }

    @Override
    public String toString() {
        StringBuilder text = new StringBuilder(name).append('(');
        for (int k = 0; k < numbers.length; k++) {
            text.append(k == 0 ? "" : ", ").append(numbers[k]);
        }
        return text.append(')').toString();
    }
}
