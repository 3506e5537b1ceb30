/** "==== 3.", first half: KEPT, ALIKE, QUESTIONS, CLAIMS and HANDED; a test for each sentence. */
public final class QuestionsAndClaimsEdgesTest {
    private static final int NONE = LostDesk.NONE;
    private static final Check CHECK = new Check();

    public static void main(String[] args) {
        kept();
        alikeIsItToo();
        alikeByLine();
        alikeHasJustThose();
        questionsForK();
        questionsAreTheFewest();
        questionsNeedAllMarks();
        questionsOfLeastNumber();
        questionsOfLeastSum();
        claimOnWhatItCanBe();
        claimAsksMarks();
        claimIsRight();
        claimIsMadeOnce();
        handedByARightClaim();
        handedAgainstOthers();
        lossIsHandedToo();
        lastLossIsHandedToo();
        claimStaysWhenWaysGo();
        CHECK.end();
    }

    private static void kept() {
        Scene scene = new Scene(CHECK, "KEPT are FINDS that are neither HANDED nor GONE.");
        scene.small().finds(3).losses(1).tell("found", 0, 0, 0, 0, 1000);
        scene.gives(0, "told", 1, 4).gives(4, "alike", 0, 0);
        scene.gives(1, "claim", 0, 1, 1, 1).gives(1, "hand", 0, 1).gives(1, "told", 1, 4).gives(3, "alike", 0, 0);
        scene.gives(2, "tick", 731).gives(2, "told", 0, 4).gives(0, "told", 3, 4).gives(1, "alike", 3, 0);
        scene.refuses(5, "alike", 1, 0).refuses(5, "alike", 0, 0).refuses(5, "questions", 1, 1);
        scene.refuses(5, "questions", 2, 1).refuses(5, "bag", 3, 1).refuses(5, "bag", 0, 3);
    }

    private static void alikeIsItToo() {
        Scene scene = new Scene(CHECK, "ALIKE on some MARKS with a FIND are the KEPT ones, it too,");
        scene.small().finds(1).gives(1, "alike", 0, 0).gives(1, "alike", 0, 65535);
        scene.finds(23).gives(24, "alike", 0, 0).gives(24, "alike", 23, 0).gives(2, "alike", 0, 65535);
        scene.refusesEach(2, 1, Numbers.outside(0, 65535), "alike", 0, 0);
    }

    private static void alikeByLine() {
        Scene scene = new Scene(CHECK, "of which the KIND is in its LINE, or it in theirs,");
        scene.town();
        for (int kind = 0; kind < 4; kind++) {
            scene.tell("found", kind, 0, 0, 0, 0);
        }
        scene.gives(4, "alike", 0, 0).gives(3, "alike", 1, 0).gives(3, "alike", 2, 0).gives(2, "alike", 3, 0);
    }

    private static void alikeHasJustThose() {
        Scene scene = new Scene(CHECK, "that have just those of these MARKS that it has.");
        scene.small().finds(4).tell("found", 0, 0, 65535, 0, 0).tell("found", 0, 0, 32768, 0, 0);
        scene.gives(2, "alike", 0, 3).gives(1, "alike", 1, 3).gives(2, "alike", 3, 3);
        scene.gives(2, "alike", 5, 32768).gives(4, "alike", 0, 32768).gives(1, "alike", 4, 65535);
    }

    private static void questionsForK() {
        Scene scene = new Scene(CHECK, "QUESTIONS on a FIND for k (1 to 24):");
        scene.small();
        for (int find = 0; find < 24; find++) {
            scene.tell("found", 0, 0, find == 0 ? 0 : 1, 0, 10);
        }
        scene.gives(1, "questions", 0, 1).gives(1, "questions", 0, 23).gives(0, "questions", 0, 24);
        scene.gives(1, "questions", 1, 23).gives(0, "questions", 1, 24).refuses(7, "questions", 1, 22);
        scene.refusesEach(2, 1, Numbers.outside(1, 24), "questions", 0, 1);
    }

    private static void questionsAreTheFewest() {
        Scene scene = new Scene(CHECK, "the fewest MARKS on which at most k are ALIKE with it;");
        scene.small().tell("found", 0, 0, 0, 0, 0).gives(0, "questions", 0, 1);
        scene.tell("found", 0, 0, 32769, 0, 0).tell("found", 0, 0, 32770, 0, 0).tell("found", 0, 0, 4, 0, 0);
        scene.gives(0, "questions", 0, 4).gives(1, "questions", 0, 3).gives(32768, "questions", 0, 2);
        scene.gives(32772, "questions", 0, 1).gives(4, "questions", 3, 1);
        scene.tell("found", 0, 0, 0, 0, 0).refuses(7, "questions", 0, 1).gives(32772, "questions", 0, 2);
    }

    private static void questionsNeedAllMarks() {
        Scene scene = new Scene(CHECK, "the fewest MARKS on which at most k are ALIKE with it;");
        scene.small().tell("found", 0, 0, 0, 0, 0);
        for (int mark = 0; mark < 16; mark++) {
            scene.tell("found", 0, 0, 1 << mark, 0, 0);
        }
        scene.gives(65535, "questions", 0, 1).gives(32767, "questions", 0, 2).gives(1, "questions", 0, 16);
        scene.gives(0, "questions", 0, 17).gives(32768, "questions", 16, 1);
    }

    private static void questionsOfLeastNumber() {
        Scene scene = new Scene(CHECK, "of several the least by their number (the sum of 1, 2, 4 ..).");
        scene.small().tell("found", 0, 0, 0, 0, 0).tell("found", 0, 0, 65535, 0, 0).gives(1, "questions", 0, 1);
        scene.tell("found", 0, 0, 49152, 0, 0).gives(16384, "questions", 0, 1).gives(1, "questions", 1, 1);
    }

    /** MARKS 0 and 1, 0 and 2, 1 and 2 would all do; the first two have the least sum. */
    private static void questionsOfLeastSum() {
        Scene scene = new Scene(CHECK, "of several the least by their number (the sum of 1, 2, 4 ..).");
        scene.small().tell("found", 0, 0, 0, 0, 0).tell("found", 0, 0, 5, 0, 0).tell("found", 0, 0, 6, 0, 0);
        scene.tell("found", 0, 0, 3, 0, 0).gives(3, "questions", 0, 1).gives(1, "questions", 0, 2);
    }

    private static void claimOnWhatItCanBe() {
        Scene scene = new Scene(CHECK, "A CLAIM by a LOSS on a FIND that it CAN be:");
        scene.town().tell("found", 2, 0, 1, 1, 20).tell("lost", 2, 0, 0, 0, 10, 20).tell("lost", 2, 0, 0, 0, 11, 20);
        scene.tell("lost", 3, 0, 0, 1, 0, 20).tell("lost", 2, 2, 0, 1, 0, 20).tell("lost", 2, 0, 0, 3, 0, 20);
        scene.gives(1, "claim", 0, 0, 1, 1);
        for (int loss = 1; loss < 5; loss++) {
            scene.refuses(6, "claim", loss, 0, 1, 1);
        }
        scene.tell("near", 0, 2, 1).gives(1, "claim", 3, 0, 1, 1).tell("way", 3, 1, 20).gives(1, "claim", 4, 0, 1, 1);
    }

    private static void claimAsksMarks() {
        Scene scene = new Scene(CHECK, "MARKS asked, and those of them that are answered as there.");
        scene.small().tell("found", 0, 0, 32769, 0, 10).tell("found", 0, 0, 65535, 0, 10).losses(3);
        scene.gives(1, "claim", 0, 0, 1, 1).gives(1, "claim", 1, 0, 65535, 32769).gives(1, "claim", 2, 0, 2, 0);
        scene.gives(1, "claim", 0, 1, 65535, 65535).gives(1, "claim", 1, 1, 32768, 32768);
        scene.refusesEach(2, 2, Numbers.outside(1, 65535), "claim", 2, 1, 1, 0);
        for (int answered : new int[] {1, 5, 6, 65535, 65536, -1, Integer.MIN_VALUE, Integer.MAX_VALUE}) {
            scene.refuses(2, "claim", 2, 1, 2, answered);
        }
        scene.gives(0, "claim", 2, 1, 2, 0);
    }

    private static void claimIsRight() {
        Scene scene = new Scene(CHECK, "It is RIGHT, if these are just those that the FIND has of them.");
        scene.small().tell("found", 0, 0, 5, 0, 10).losses(6);
        scene.gives(1, "claim", 0, 0, 7, 5).gives(0, "claim", 1, 0, 7, 7).gives(0, "claim", 2, 0, 7, 4);
        scene.gives(0, "claim", 3, 0, 7, 0).gives(1, "claim", 4, 0, 2, 0).gives(0, "claim", 5, 0, 5, 1);
        scene.refuses(7, "hand", 1, 0).refuses(7, "hand", 2, 0).refuses(8, "hand", 4, 0).gives(1, "hand", 0, 0);
    }

    private static void claimIsMadeOnce() {
        Scene scene = new Scene(CHECK, "Each LOSS may CLAIM a FIND once.");
        scene.town().tell("found", 0, 0, 1, 0, 10).tell("found", 0, 0, 1, 0, 10).losses(2);
        scene.tell("lost", 0, 5, 0, 0, 0, 10);
        scene.refuses(6, "claim", 2, 0, 1, 1);
        scene.gives(0, "claim", 0, 0, 1, 0).refuses(4, "claim", 0, 0, 1, 1).refuses(4, "claim", 0, 0, 1, 0);
        scene.gives(1, "claim", 0, 1, 1, 1).refuses(4, "claim", 0, 1, 65535, 1);
        scene.gives(1, "claim", 1, 0, 1, 1).tell("near", 0, 5, 1).gives(1, "claim", 2, 0, 1, 1);
    }

    private static void handedByARightClaim() {
        Scene scene = new Scene(CHECK, "HANDED is a FIND to a LOSS with a RIGHT CLAIM on at least one MARK,");
        scene.small().finds(3).losses(3);
        scene.refuses(7, "hand", 0, 0).gives(0, "claim", 0, 0, 65535, 1).refuses(7, "hand", 0, 0);
        scene.gives(1, "claim", 0, 1, 1, 1).refuses(7, "hand", 0, 0).refuses(7, "hand", 1, 1);
        scene.gives(1, "claim", 1, 0, 32768, 0).gives(1, "hand", 1, 0).gives(1, "told", 0, 4).gives(1, "told", 0, 5);
        scene.gives(1, "hand", 0, 1).gives(0, "told", 1, 5).gives(0, "told", 2, 4);
    }

    private static void handedAgainstOthers() {
        Scene scene = new Scene(CHECK, "if no other LOSS that isn't HANDED has a RIGHT one on as many MARKS or more;");
        scene.small().finds(4).losses(5);
        scene.gives(1, "claim", 0, 3, 3, 3).gives(0, "claim", 1, 3, 65535, 0).gives(1, "claim", 2, 3, 1, 1);
        scene.refuses(8, "hand", 2, 3);
        scene.gives(1, "claim", 3, 3, 12, 0).refuses(8, "hand", 0, 3).refuses(8, "hand", 3, 3);
        scene.gives(1, "claim", 4, 3, 7, 3).refuses(8, "hand", 0, 3);
        scene.gives(1, "claim", 4, 1, 1, 1).gives(1, "hand", 4, 1).refuses(8, "hand", 0, 3);
        scene.gives(1, "claim", 3, 2, 2, 2).gives(1, "hand", 3, 2).refuses(8, "hand", 2, 3).gives(1, "hand", 0, 3);
    }

    private static void lossIsHandedToo() {
        Scene scene = new Scene(CHECK, "the LOSS is HANDED then, too.");
        scene.small().finds(3).losses(2).tell("claim", 0, 0, 1, 0).tell("claim", 0, 1, 1, 1);
        scene.gives(1, "hand", 0, 1).gives(0, "match");
        scene.refuses(5, "hand", 0, 0).refuses(5, "claim", 0, 2, 1, 0).refuses(5, "matched", 0).refuses(5, "sure", 0, 0);
    }

    private static void lastLossIsHandedToo() {
        Scene scene = new Scene(CHECK, "the LOSS is HANDED then, too.");
        scene.small().finds(24).losses(24).tell("claim", 23, 23, 1, 1).tell("claim", 22, 23, 1, 1);
        scene.refuses(8, "hand", 23, 23).tell("claim", 22, 22, 1, 0).gives(1, "hand", 22, 22).gives(1, "hand", 23, 23);
        scene.gives(23, "told", 23, 5).gives(22, "told", 22, 5).gives(0, "match");
        scene.refuses(5, "matched", 23).refuses(5, "matched", 22).refuses(5, "hand", 23, 0);
    }

    /** A CLAIM was made on what the LOSS CAN be then; the document asks no more of it when the FIND is HANDED. */
    private static void claimStaysWhenWaysGo() {
        Scene scene = new Scene(CHECK, "HANDED is a FIND to a LOSS with a RIGHT CLAIM on at least one MARK,");
        scene.town().tell("found", 0, 0, 1, 0, 10).tell("lost", 0, 0, 0, 1, 0, 0).gives(1, "claim", 0, 0, 1, 1);
        scene.tell("way", 0, 1, NONE).refuses(6, "cost", 0, 0).refuses(4, "claim", 0, 0, 1, 1).gives(1, "hand", 0, 0);
    }
}
