/** Promises 2, 3 and 4. */
public final class DraftTest {
    public static void main(String[] args) {
        Check check = new Check();
        writesUpToFive(check);
        wipes(check);
        keepsTheWordsWritten(check);
        check.end();
    }

    private static void writesUpToFive(Check check) {
        MeshRouters x = new MeshRouters();
        for (int n = 1; n <= 5; n++) {
            check.due("write " + n, x.write(n * 10), n);
            check.due("draft() after write " + n, x.draft(), n);
        }
        check.due("write 6", x.write(60), MeshRouters.FULL);
        check.due("write 7", x.write(70), MeshRouters.FULL);
        check.due("draft() after FULL", x.draft(), 5);
        x.send(3, 3, 0);
        x.settle();
        for (int k = 0; k < 5; k++) {
            check.due("word " + k + " after FULL", x.word(Mesh.both(3, 3), 0, k), (k + 1) * 10);
        }
    }

    private static void wipes(Check check) {
        for (int n = 0; n <= 5; n++) {
            MeshRouters x = new MeshRouters();
            for (int k = 0; k < n; k++) {
                x.write(k);
            }
            check.due("wipe() of " + n, x.wipe(), n);
            check.due("draft() after wipe", x.draft(), 0);
            check.due("wipe() again", x.wipe(), 0);
            check.due("send of a wiped draft", x.send(0, 1, 0), MeshRouters.BAD);
            check.due("write after wipe", x.write(9), 1);
        }
    }

    private static void keepsTheWordsWritten(Check check) {
        int[] values = {Integer.MIN_VALUE, -1, 0, 1, Integer.MAX_VALUE};
        MeshRouters x = new MeshRouters();
        x.write(44);
        x.write(55);
        x.wipe();
        Mesh.send(x, 2, 9, values);
        x.settle();
        check.due("words after wipe", x.words(9, 2, 0), 5);
        for (int k = 0; k < 5; k++) {
            check.due("word " + k, x.word(Mesh.both(9, 2), 0, k), values[k]);
        }

        // A wipe leaves what was sent alone.
        x.write(1);
        x.wipe();
        check.due("messages() after wipe", x.messages(), 1);
        check.due("word 4 after wipe", x.word(Mesh.both(9, 2), 0, 4), Integer.MAX_VALUE);
    }
}
