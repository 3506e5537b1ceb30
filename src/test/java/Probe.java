import java.util.ArrayList;
import java.util.List;

/**
 * Many calls on a desk, with all that they answer: two desks in one state answer alike. What can't be asked (CLAIMS,
 * NEAR, WAYS, KEEPING) is seen by what calls that change it answer, so a desk is probed once and then left.
 */
enum Probe {
    FINDS_AND_BEST, MARKS_AND_COSTS, COLOURS_AND_WAYS, CLAIMS, COUNTS_AND_DAYS;

    private static final int NONE = LostDesk.NONE;
    private static final int THINGS = 24;
    private static final int[] SOME_THINGS = {0, 1, 2, 3, 4, 22, 23};
    private static final int[] SOME_MARKS = {0, 1, 2, 4, 0xff00, 0xffff};
    private static final int[] SOME_TICKS = {0, 1, 24, 25, 149, 150, 719, 720, 721, 1000, 99999, 124000, 124001, 200000};

    /** The answers of one probe, and the desk that gives them. */
    private static final class Answers {
        private final CountedDesk desk;
        private final List<String> list = new ArrayList<>();

        Answers(CountedDesk desk) {
            this.desk = desk;
        }

        void ask(String name, int... numbers) {
            Call call = new Call(name, numbers);
            list.add(call + " " + call.on(desk));
        }

        void askWithStatus(String name, int... numbers) {
            ask(name, numbers);
            ask("status");
        }
    }

    List<String> answers(CountedDesk desk) {
        Answers answers = new Answers(desk);
        switch (this) {
            case FINDS_AND_BEST -> findsAndBest(answers);
            case MARKS_AND_COSTS -> marksAndCosts(answers);
            case COLOURS_AND_WAYS -> coloursAndWays(answers);
            case CLAIMS -> claims(answers);
            case COUNTS_AND_DAYS -> countsAndDays(answers);
        }
        return answers.list;
    }

    private static void findsAndBest(Answers answers) {
        for (int k = 0; k < 9; k++) {
            answers.ask("out", k);
        }
        answers.ask("match");
        for (int thing = 0; thing < THINGS; thing++) {
            for (int what = 0; what < 7; what++) {
                answers.ask("told", thing, what);
            }
            answers.ask("due", thing);
            answers.ask("matched", thing);
            answers.ask("sure", thing, 0);
            answers.ask("sure", thing, 10);
        }
    }

    private static void marksAndCosts(Answers answers) {
        for (int thing = 0; thing < THINGS; thing++) {
            for (int marks : SOME_MARKS) {
                answers.ask("alike", thing, marks);
            }
            answers.ask("questions", thing, 1);
            answers.ask("questions", thing, 3);
            answers.ask("cost", thing, thing);
            answers.ask("cost", thing, 0);
            answers.ask("cost", 0, thing);
        }
    }

    private static void coloursAndWays(Answers answers) {
        for (int a = 0; a < 12; a++) {
            for (int b = a + 1; b < 12; b++) {
                answers.ask("near", a, b, 1);
            }
        }
        answers.ask("place");
        for (int a = 0; a < 20; a++) {
            answers.ask("far", 0, a);
            for (int b = a + 1; b < 20; b++) {
                answers.ask("way", a, b, NONE);
            }
        }
    }

    private static void claims(Answers answers) {
        for (int loss : SOME_THINGS) {
            for (int find : SOME_THINGS) {
                answers.askWithStatus("hand", loss, find);
            }
        }
        for (int loss : SOME_THINGS) {
            for (int find : SOME_THINGS) {
                answers.askWithStatus("claim", loss, find, 1, 0);
            }
        }
    }

    private static void countsAndDays(Answers answers) {
        answers.askWithStatus("kind", NONE);
        answers.askWithStatus("kind", 0);
        answers.ask("lost", 0, NONE, 0, 0, 0, 0);
        answers.ask("match");
        for (int kind = 0; kind < 40; kind++) {
            answers.ask("found", kind, NONE, 0, 0, 0);
        }
        for (int find = 0; find < THINGS; find++) {
            answers.ask("due", find);
        }
        for (int tick : SOME_TICKS) {
            answers.ask("tick", tick);
        }
    }
}
