/** The boundary cases of promises 10, 11 and 12, sentence by sentence. */
public final class MessageBoundaryTest {
    private static final int[] FAR = {-256, 256, 65536, Integer.MIN_VALUE, Integer.MAX_VALUE};

    public static void main(String[] args) {
        Check check = new Check();
        wordsOfTheFirstAndTheLast(check);
        wordsOfNoneIsBad(check);
        wordsAtAWrongPlaceIsBad(check);
        wordOfTheFirstAndTheLast(check);
        wordOfNoMessageIsZero(check);
        wordThatIsNotThereIsZero(check);
        wordOfAWrongPairIsZero(check);
        takeAnswersTheNumberOfWords(check);
        takeOfNoneIsBad(check);
        takeAtAWrongPlaceIsBad(check);
        check.end();
    }

    private static void wordsOfTheFirstAndTheLast(Check check) {
        check.sentence("10: message i (0 the first that was sent)");
        MeshRouters x = new MeshRouters();
        for (int m = 0; m < 20; m++) {
            Mesh.send(x, 2, 7, new int[1 + m % 5]);
        }
        x.settle();
        for (int i = 0; i < 20; i++) {
            check.due("words(7, 2, " + i + ")", x.words(7, 2, i), 1 + i % 5);
        }
        check.due("words(7, 2, 20)", x.words(7, 2, 20), MeshRouters.BAD);
        x.take(7, 2);
        check.due("words(7, 2, 0) after take", x.words(7, 2, 0), 2);
        check.due("words(7, 2, 18) after take", x.words(7, 2, 18), 5);
        check.due("words(7, 2, 19) after take", x.words(7, 2, 19), MeshRouters.BAD);
    }

    private static void wordsOfNoneIsBad(Check check) {
        check.sentence("10: BAD when there is none");
        check.due("words(0, 0, 0) of a new object", new MeshRouters().words(0, 0, 0), MeshRouters.BAD);
        MeshRouters x = new MeshRouters();
        Mesh.send(x, 6, 5, 1, 2);
        check.due("words(5, 6, 0) while it waits", x.words(5, 6, 0), MeshRouters.BAD);
        x.settle();
        Mesh.send(x, 6, 5, 3);
        check.due("words(5, 6, 0)", x.words(5, 6, 0), 2);
        check.due("words(5, 6, -1)", x.words(5, 6, -1), MeshRouters.BAD);
        check.due("words(5, 6, 1), which waits", x.words(5, 6, 1), MeshRouters.BAD);
        for (int i : FAR) {
            check.due("words(5, 6, " + i + ")", x.words(5, 6, i), MeshRouters.BAD);
        }
        check.due("words(6, 5, 0), the other way round", x.words(6, 5, 0), MeshRouters.BAD);
        x.take(5, 6);
        check.due("words(5, 6, 0) after take", x.words(5, 6, 0), MeshRouters.BAD);
    }

    private static void wordsAtAWrongPlaceIsBad(Check check) {
        check.sentence("10: BAD when there is none (none is at or from what is no place)");
        MeshRouters x = Mesh.atTheCorners();
        for (int p : Mesh.NOT_PLACES) {
            for (int q : new int[] {0, 1, 15, p}) {
                check.due("words(" + p + ", " + q + ", 0)", x.words(p, q, 0), MeshRouters.BAD);
                check.due("words(" + q + ", " + p + ", 0)", x.words(q, p, 0), MeshRouters.BAD);
            }
        }
    }

    private static void wordOfTheFirstAndTheLast(Check check) {
        check.sentence("11: Word k (0 the first) of message i, where both is goal + 16 * source");
        MeshRouters x = Mesh.atTheCorners();
        check.due("word(0, 0, 0)", x.word(0, 0, 0), 5);
        check.due("word(255, 0, 0)", x.word(255, 0, 0), 6);
        check.due("word(240, 0, 0)", x.word(240, 0, 0), 7);
        check.due("word(15, 0, 0)", x.word(15, 0, 0), 8);
        check.due("word(16, 0, 0)", x.word(16, 0, 0), 9);
        check.due("word(1, 0, 0)", x.word(1, 0, 0), 0);
        MeshRouters y = Mesh.twentyOnOneWay(15, 15);
        y.settle();
        for (int i = 0; i < 20; i++) {
            check.due("word(255, " + i + ", 0)", y.word(255, i, 0), 100 + i);
        }
        check.due("word(255, 20, 0)", y.word(255, 20, 0), 0);
    }

    private static void wordOfNoMessageIsZero(Check check) {
        check.sentence("11: 0 when there is none (no message i)");
        check.due("word(0, 0, 0) of a new object", new MeshRouters().word(0, 0, 0), 0);
        MeshRouters x = new MeshRouters();
        Mesh.send(x, 0, 0, 11, 12);
        check.due("word(0, 0, 0) while it waits", x.word(0, 0, 0), 0);
        x.settle();
        Mesh.send(x, 0, 0, 13);
        check.due("word(0, 0, 0)", x.word(0, 0, 0), 11);
        check.due("word(0, -1, 0)", x.word(0, -1, 0), 0);
        check.due("word(0, 1, 0), which waits", x.word(0, 1, 0), 0);
        for (int i : FAR) {
            check.due("word(0, " + i + ", 0)", x.word(0, i, 0), 0);
        }
        x.take(0, 0);
        check.due("word(0, 0, 0) after take", x.word(0, 0, 0), 0);
    }

    private static void wordThatIsNotThereIsZero(Check check) {
        check.sentence("11: 0 when there is none (no word k)");
        MeshRouters x = new MeshRouters();
        Mesh.send(x, 6, 5, 1, 2, 3, 4, 5);
        Mesh.send(x, 6, 5, 6, 7, 8, 9, 10);
        Mesh.send(x, 6, 5, 11, 12, 13, 14, 15);
        x.settle();
        int both = Mesh.both(5, 6);
        // With words kept side by side, these would be the words of a neighbour.
        for (int k : new int[] {-6, -5, -1, 5, 6, 9, 10}) {
            check.due("word " + k + " of message 1", x.word(both, 1, k), 0);
        }
        for (int i = 0; i < 3; i++) {
            check.due("word 0 of " + i, x.word(both, i, 0), 5 * i + 1);
            check.due("word 4 of " + i, x.word(both, i, 4), 5 * i + 5);
            for (int k : FAR) {
                check.due("word " + k + " of " + i, x.word(both, i, k), 0);
            }
        }
        // What longer messages and drafts left behind must not show.
        x.take(5, 6);
        x.take(5, 6);
        x.take(5, 6);
        Mesh.send(x, 6, 5, 21);
        x.settle();
        for (int k = 1; k < 5; k++) {
            check.due("word " + k + " of a short message", x.word(both, 0, k), 0);
        }
        check.due("sum(5) of a short message", x.sum(5), 21);
    }

    private static void wordOfAWrongPairIsZero(Check check) {
        check.sentence("11: 0 when there is none (no such pair of places)");
        MeshRouters x = Mesh.atTheCorners();
        int[] notBoth = {-1, -15, -16, -240, -256, 256, 271, 272, 496, 511, 512, 65536,
            Integer.MIN_VALUE, Integer.MIN_VALUE + 255, Integer.MAX_VALUE};
        for (int both : notBoth) {
            check.due("word(" + both + ", 0, 0)", x.word(both, 0, 0), 0);
        }
    }

    private static void takeAnswersTheNumberOfWords(Check check) {
        check.sentence("12: Takes the first of those messages away and answers the number of its words");
        MeshRouters x = new MeshRouters();
        for (int n = 1; n <= 5; n++) {
            Mesh.send(x, 15, 0, new int[6 - n]);
            Mesh.send(x, 0, 15, new int[n]);
        }
        x.settle();
        for (int n = 1; n <= 5; n++) {
            check.due("take(15, 0)", x.take(15, 0), n);
            check.due("take(0, 15)", x.take(0, 15), 6 - n);
            check.due("messages()", x.messages(), 10 - 2 * n);
        }
        check.due("take(15, 0) of none", x.take(15, 0), MeshRouters.BAD);
        check.due("take(0, 15) of none", x.take(0, 15), MeshRouters.BAD);
    }

    private static void takeOfNoneIsBad(Check check) {
        check.sentence("12: BAD when there is none");
        check.due("take(0, 0) of a new object", new MeshRouters().take(0, 0), MeshRouters.BAD);
        MeshRouters x = new MeshRouters();
        Mesh.send(x, 6, 5, 1, 2);
        check.due("take(5, 6) while it waits", x.take(5, 6), MeshRouters.BAD);
        check.due("messages()", x.messages(), 1);
        check.due("waiting(6)", x.waiting(6), 1);
        x.settle();
        check.due("take(6, 5), the other way round", x.take(6, 5), MeshRouters.BAD);
        check.due("take(5, 7), another source", x.take(5, 7), MeshRouters.BAD);
        check.due("take(4, 6), another goal", x.take(4, 6), MeshRouters.BAD);
        check.due("messages()", x.messages(), 1);
        check.due("take(5, 6)", x.take(5, 6), 2);
        check.due("take(5, 6) again", x.take(5, 6), MeshRouters.BAD);
        check.due("messages()", x.messages(), 0);
    }

    private static void takeAtAWrongPlaceIsBad(Check check) {
        check.sentence("12: BAD when there is none (none is at or from what is no place)");
        MeshRouters x = Mesh.atTheCorners();
        for (int p : Mesh.NOT_PLACES) {
            for (int q : new int[] {0, 1, 15, p}) {
                check.due("take(" + p + ", " + q + ")", x.take(p, q), MeshRouters.BAD);
                check.due("take(" + q + ", " + p + ")", x.take(q, p), MeshRouters.BAD);
            }
        }
        check.due("messages()", x.messages(), 5);
    }
}
