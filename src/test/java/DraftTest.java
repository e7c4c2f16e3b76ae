/** Promises 2, 3 and 4. */
public final class DraftTest {
    public static void main(String[] args) {
        Check check = new Check();
        writesOneAfterTheOther(check);
        keepsTheWordsWritten(check);
        check.end();
    }

    private static void writesOneAfterTheOther(Check check) {
        MeshRouters x = new MeshRouters();
        check.due("write(4)", x.write(4), 1);
        check.due("write(4) again", x.write(4), 2);
        check.due("draft()", x.draft(), 2);
        check.due("write(-7)", x.write(-7), 3);
        check.due("wipe()", x.wipe(), 3);
        check.due("draft() after wipe", x.draft(), 0);
        check.due("write(1) after wipe", x.write(1), 1);
    }

    private static void keepsTheWordsWritten(Check check) {
        int[] values = {Integer.MIN_VALUE, -1, 0, 1, Integer.MAX_VALUE};
        MeshRouters x = new MeshRouters();
        x.write(44);
        x.write(55);
        x.wipe();
        Mesh.send(x, 2, 9, values);
        x.settle();
        check.due("words after wipe", x.words(9, 2, 0), 5);
        for (int k = 0; k < 5; k++) {
            check.due("word " + k, x.word(Mesh.both(9, 2), 0, k), values[k]);
        }

        // A wipe leaves what was sent alone.
        x.write(1);
        x.wipe();
        check.due("messages() after wipe", x.messages(), 1);
        check.due("word 4 after wipe", x.word(Mesh.both(9, 2), 0, 4), Integer.MAX_VALUE);
    }
}
