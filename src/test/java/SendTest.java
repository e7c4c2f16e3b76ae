/** Promises 5, 8 and 14. */
public final class SendTest {
    public static void main(String[] args) {
        Check check = new Check();
        sendsFromEveryPlace(check);
        countsWhatIsThereToo(check);
        mannerMakesNoDifference(check);
        check.end();
    }

    private static void sendsFromEveryPlace(Check check) {
        MeshRouters x = new MeshRouters();
        for (int p = 0; p < 16; p++) {
            check.due("send from " + p, Mesh.send(x, p, 15 - p, p, p), p + 1);
            check.due("draft() after send", x.draft(), 0);
            check.due("messages()", x.messages(), p + 1);
            check.due("waiting(" + p + ")", x.waiting(p), 1);
        }
        check.due("second send from 4", Mesh.send(x, 4, 4, 1), 17);
        check.due("waiting(4)", x.waiting(4), 2);
        check.due("waiting(5)", x.waiting(5), 1);
        x.settle();
        for (int p = 0; p < 16; p++) {
            check.due("waiting(" + p + ") after settle", x.waiting(p), 0);
        }
        check.due("messages() after settle", x.messages(), 17);
    }

    private static void countsWhatIsThereToo(Check check) {
        MeshRouters x = new MeshRouters();
        Mesh.send(x, 1, 2, 1);
        x.settle();
        check.due("send beside one there", Mesh.send(x, 1, 2, 1), 2);
        check.due("waiting(1)", x.waiting(1), 1);
        check.due("waiting(2)", x.waiting(2), 0);
        x.take(2, 1);
        check.due("messages()", x.messages(), 1);
        check.due("waiting(1) after take", x.waiting(1), 1);
    }

    private static void mannerMakesNoDifference(Check check) {
        for (int how = 0; how <= 2; how++) {
            MeshRouters x = new MeshRouters();
            x.write(31);
            x.write(32);
            check.due("send(0, 15, " + how + ")", x.send(0, 15, how), 1);
            check.due("settle()", x.settle(), 1);
            check.due("crossings()", x.crossings(), 18);
            check.due("word 1", x.word(Mesh.both(15, 0), 0, 1), 32);
        }
    }
}
