/** The boundary cases of promises 5 and 14 and of "Terms" on messages, sentence by sentence. */
public final class SendBoundaryTest {
    private static final int[] NOT_MANNERS = {-1, 3, 4, -256, 256, 65536, Integer.MIN_VALUE, Integer.MAX_VALUE};

    public static void main(String[] args) {
        Check check = new Check();
        wrongSourceIsBad(check);
        wrongGoalIsBad(check);
        wrongMannerIsBad(check);
        emptyDraftIsBad(check);
        twentyIsFull(check);
        badComesBeforeFull(check);
        draftIsEmptyThen(check);
        sourceAndGoalMayBeTheSame(check);
        oneToFiveWords(check);
        messagesCountsWaitingAndThere(check);
        check.end();
    }

    private static void wrongSourceIsBad(Check check) {
        check.sentence("5: BAD when source is not 0 .. 15");
        for (int p : Mesh.NOT_PLACES) {
            for (int goal : new int[] {0, 15, p}) {
                MeshRouters x = withWord();
                check.due("send(" + p + ", " + goal + ", 0)", x.send(p, goal, 0), MeshRouters.BAD);
                keepsTheDraft(check, x);
            }
        }
        check.due("send(0, 7, 0)", withWord().send(0, 7, 0), 1);
        check.due("send(15, 7, 0)", withWord().send(15, 7, 0), 1);
    }

    private static void wrongGoalIsBad(Check check) {
        check.sentence("5: BAD when goal is not 0 .. 15");
        for (int p : Mesh.NOT_PLACES) {
            for (int source : new int[] {0, 15}) {
                MeshRouters x = withWord();
                check.due("send(" + source + ", " + p + ", 0)", x.send(source, p, 0), MeshRouters.BAD);
                keepsTheDraft(check, x);
            }
        }
        check.due("send(7, 0, 0)", withWord().send(7, 0, 0), 1);
        check.due("send(7, 15, 0)", withWord().send(7, 15, 0), 1);
    }

    private static void wrongMannerIsBad(Check check) {
        check.sentence("5: BAD when how is not 0 .. 2");
        for (int how : NOT_MANNERS) {
            MeshRouters x = withWord();
            check.due("send(2, 3, " + how + ")", x.send(2, 3, how), MeshRouters.BAD);
            keepsTheDraft(check, x);
        }
        for (int how = 0; how <= 2; how++) {
            check.due("send(2, 3, " + how + ")", withWord().send(2, 3, how), 1);
        }
    }

    private static void emptyDraftIsBad(Check check) {
        check.sentence("5: BAD when the draft is empty");
        MeshRouters x = new MeshRouters();
        check.due("send of a new object", x.send(0, 1, 0), MeshRouters.BAD);
        check.due("messages()", x.messages(), 0);
        x.write(5);
        x.wipe();
        check.due("send of a wiped draft", x.send(0, 1, 1), MeshRouters.BAD);
        Mesh.send(x, 0, 1, 5);
        check.due("send of a draft just sent", x.send(0, 1, 2), MeshRouters.BAD);
        check.due("messages()", x.messages(), 1);
        check.due("waiting(0)", x.waiting(0), 1);
    }

    private static void twentyIsFull(Check check) {
        check.sentence("5: FULL when there are twenty");
        for (int settledAfter = 0; settledAfter <= 20; settledAfter++) {
            MeshRouters x = new MeshRouters();
            for (int m = 1; m <= 20; m++) {
                check.due("send " + m, Mesh.send(x, 1, 2, m), m);
                if (m == settledAfter) {
                    x.settle();
                }
            }
            x.write(77);
            check.due("send 21, settled after " + settledAfter, x.send(3, 4, 0), MeshRouters.FULL);
            check.due("messages()", x.messages(), 20);
            check.due("draft()", x.draft(), 1);
            check.due("waiting(3)", x.waiting(3), 0);
            x.settle();
            check.due("send 21, all there", x.send(3, 4, 0), MeshRouters.FULL);
            check.due("take(2, 1)", x.take(2, 1), 1);
            check.due("send after take", x.send(3, 4, 0), 20);
            check.due("waiting(3) after send", x.waiting(3), 1);
        }
    }

    private static void badComesBeforeFull(Check check) {
        check.sentence("5: Tested in this order: BAD, FULL");
        MeshRouters x = Mesh.fullOfWaiting();
        check.due("empty draft, twenty waiting", x.send(0, 1, 0), MeshRouters.BAD);
        x.settle();
        check.due("empty draft, twenty there", x.send(0, 1, 0), MeshRouters.BAD);
        x.write(8);
        for (int p : Mesh.NOT_PLACES) {
            check.due("source " + p + ", twenty there", x.send(p, 1, 0), MeshRouters.BAD);
            check.due("goal " + p + ", twenty there", x.send(1, p, 0), MeshRouters.BAD);
        }
        for (int how : NOT_MANNERS) {
            check.due("how " + how + ", twenty there", x.send(0, 1, how), MeshRouters.BAD);
        }
        check.due("nothing wrong, twenty there", x.send(0, 1, 0), MeshRouters.FULL);
    }

    private static void draftIsEmptyThen(Check check) {
        check.sentence("5: Sends the draft, which is empty then");
        MeshRouters x = new MeshRouters();
        Mesh.send(x, 1, 2, 1, 2, 3, 4, 5);
        check.due("draft() after send", x.draft(), 0);
        check.due("write after send", x.write(6), 1);
        x.send(1, 2, 0);
        x.settle();
        check.due("words(2, 1, 1)", x.words(2, 1, 1), 1);
        check.due("word 0", x.word(Mesh.both(2, 1), 1, 0), 6);
        check.due("word 1", x.word(Mesh.both(2, 1), 1, 1), 0);
        check.due("sum(2)", x.sum(2), 21);
    }

    private static void sourceAndGoalMayBeTheSame(Check check) {
        check.sentence("Terms: a source and a goal, places (they may be the same)");
        MeshRouters x = new MeshRouters();
        for (int p = 0; p < 16; p++) {
            check.due("send from " + p + " to itself", Mesh.send(x, p, p, 50 + p), p + 1);
            check.due("waiting(" + p + ")", x.waiting(p), 1);
            check.due("arrived(" + p + ", " + p + ") before settle", x.arrived(p, p), 0);
        }
        check.due("settle()", x.settle(), 16);
        check.due("crossings()", x.crossings(), 0);
        for (int p = 0; p < 16; p++) {
            check.due("waiting(" + p + ") after settle", x.waiting(p), 0);
            check.due("arrived(" + p + ", " + p + ")", x.arrived(p, p), 1);
            check.due("word", x.word(Mesh.both(p, p), 0, 0), 50 + p);
            check.due("take(" + p + ", " + p + ")", x.take(p, p), 1);
        }
        check.due("messages()", x.messages(), 0);
    }

    private static void oneToFiveWords(Check check) {
        check.sentence("Terms: one to five WORDS");
        MeshRouters x = new MeshRouters();
        for (int n = 1; n <= 5; n++) {
            for (int k = 0; k < n; k++) {
                x.write(10 * n + k);
            }
            check.due("send of " + n + " words", x.send(4, 9, 0), n);
        }
        x.settle();
        for (int n = 1; n <= 5; n++) {
            check.due("words of message " + (n - 1), x.words(9, 4, n - 1), n);
            for (int k = 0; k < 5; k++) {
                check.due("word " + k + " of " + n, x.word(Mesh.both(9, 4), n - 1, k), k < n ? 10 * n + k : 0);
            }
        }
        for (int n = 1; n <= 5; n++) {
            check.due("take " + n, x.take(9, 4), n);
        }
    }

    private static void messagesCountsWaitingAndThere(Check check) {
        check.sentence("14: The number of messages that are waiting or there");
        MeshRouters x = new MeshRouters();
        for (int m = 1; m <= 20; m++) {
            Mesh.send(x, 6, 1, m);
            check.due("messages() after send " + m, x.messages(), m);
            if (m % 7 == 0) {
                x.settle();
                check.due("messages() after settle", x.messages(), m);
            }
        }
        x.write(1);
        x.send(6, 1, 0);
        check.due("messages() after FULL", x.messages(), 20);
        x.settle();
        for (int left = 19; left >= 0; left--) {
            x.take(1, 6);
            check.due("messages() after take", x.messages(), left);
        }
        x.take(1, 6);
        check.due("messages() after a take of none", x.messages(), 0);
    }

    private static MeshRouters withWord() {
        MeshRouters x = new MeshRouters();
        x.write(6);
        return x;
    }

    private static void keepsTheDraft(Check check, MeshRouters x) {
        check.due("draft() after BAD", x.draft(), 1);
        check.due("messages() after BAD", x.messages(), 0);
        check.due("send after BAD", x.send(8, 8, 0), 1);
        x.settle();
        check.due("sum(8) after BAD", x.sum(8), 6);
    }
}
