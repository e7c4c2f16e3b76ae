/** The boundary cases of promises 1 to 4, sentence by sentence. */
public final class DraftBoundaryTest {
    public static void main(String[] args) {
        Check check = new Check();
        newObjectHasNoMessages(check);
        newObjectHasAnEmptyDraft(check);
        writeIsFullAtFive(check);
        writeTakesEveryInt(check);
        wipeEmptiesAnyLength(check);
        wipeAnswersTheLengthItHad(check);
        draftIsTheLength(check);
        check.end();
    }

    private static void newObjectHasNoMessages(Check check) {
        check.sentence("1: No messages");
        MeshRouters x = new MeshRouters();
        check.due("messages()", x.messages(), 0);
        check.due("settle()", x.settle(), 0);
        check.due("messages() after settle", x.messages(), 0);
        for (int source = 0; source < 16; source++) {
            for (int goal = 0; goal < 16; goal++) {
                check.due("arrived(" + goal + ", " + source + ")", x.arrived(goal, source), 0);
            }
            check.due("waiting(" + source + ")", x.waiting(source), 0);
        }
        check.due("crossings()", x.crossings(), 0);
        check.due("the first send", Mesh.send(x, 0, 0, 1), 1);
    }

    private static void newObjectHasAnEmptyDraft(Check check) {
        check.sentence("1: an empty draft");
        check.due("draft()", new MeshRouters().draft(), 0);
        check.due("wipe()", new MeshRouters().wipe(), 0);
        check.due("send(0, 0, 0)", new MeshRouters().send(0, 0, 0), MeshRouters.BAD);
        check.due("write(0)", new MeshRouters().write(0), 1);
    }

    private static void writeIsFullAtFive(Check check) {
        check.sentence("2: FULL when it has five");
        MeshRouters x = new MeshRouters();
        for (int n = 1; n <= 5; n++) {
            check.due("write " + n, x.write(n * 10), n);
        }
        for (int v : new int[] {60, 0, -1, Integer.MIN_VALUE, Integer.MAX_VALUE}) {
            check.due("write(" + v + ") to five", x.write(v), MeshRouters.FULL);
            check.due("draft() after FULL", x.draft(), 5);
        }
        x.send(3, 3, 0);
        check.due("write after the five were sent", x.write(61), 1);
        x.settle();
        check.due("words(3, 3, 0)", x.words(3, 3, 0), 5);
        for (int k = 0; k < 5; k++) {
            check.due("word " + k, x.word(Mesh.both(3, 3), 0, k), (k + 1) * 10);
        }
    }

    private static void writeTakesEveryInt(Check check) {
        check.sentence("2: Appends a word to the draft (words are ints, codes among them)");
        int[] values = {Integer.MIN_VALUE, MeshRouters.FULL, MeshRouters.BAD, 0, Integer.MAX_VALUE};
        MeshRouters x = new MeshRouters();
        for (int k = 0; k < 5; k++) {
            check.due("write(" + values[k] + ")", x.write(values[k]), k + 1);
        }
        x.send(9, 2, 0);
        x.settle();
        for (int k = 0; k < 5; k++) {
            check.due("word " + k, x.word(Mesh.both(2, 9), 0, k), values[k]);
        }
    }

    private static void wipeEmptiesAnyLength(Check check) {
        check.sentence("3: Empties the draft");
        for (int n = 0; n <= 5; n++) {
            MeshRouters x = withDraft(n);
            x.wipe();
            check.due("draft() after wipe of " + n, x.draft(), 0);
            check.due("send of a wiped draft", x.send(0, 1, 0), MeshRouters.BAD);
            for (int k = 1; k <= 5; k++) {
                check.due("write " + k + " after wipe of " + n, x.write(k), k);
            }
            check.due("write 6 after wipe of " + n, x.write(6), MeshRouters.FULL);
            x.send(0, 1, 0);
            x.settle();
            check.due("sum(1)", x.sum(1), 15);
        }
    }

    private static void wipeAnswersTheLengthItHad(Check check) {
        check.sentence("3: answers the length it had");
        for (int n = 0; n <= 5; n++) {
            MeshRouters x = withDraft(n);
            check.due("wipe() of " + n, x.wipe(), n);
            check.due("wipe() again", x.wipe(), 0);
        }
        MeshRouters x = withDraft(5);
        x.write(6);
        check.due("wipe() after FULL", x.wipe(), 5);
        Mesh.send(x, 0, 1, 7, 8);
        check.due("wipe() after send", x.wipe(), 0);
        check.due("messages() after wipe", x.messages(), 1);
    }

    private static void draftIsTheLength(Check check) {
        check.sentence("4: The length of the draft");
        for (int n = 0; n <= 5; n++) {
            MeshRouters x = withDraft(n);
            check.due("draft() of " + n, x.draft(), n);
            check.due("draft() again", x.draft(), n);
            x.settle();
            x.send(0, 16, 0);
            check.due("draft() after a refused send", x.draft(), n);
            x.send(0, 1, 0);
            check.due("draft() after send", x.draft(), 0);
        }
    }

    private static MeshRouters withDraft(int n) {
        MeshRouters x = new MeshRouters();
        for (int k = 0; k < n; k++) {
            x.write(90 + k);
        }
        return x;
    }
}
