/** Promises 5, 8 and 14. */
public final class SendTest {
    public static void main(String[] args) {
        Check check = new Check();
        sendsFromEveryPlace(check);
        refusesWrongArguments(check);
        refusesAnEmptyDraft(check);
        refusesTheTwentyFirst(check);
        countsWhatIsThereToo(check);
        mannerMakesNoDifference(check);
        check.end();
    }

    private static void sendsFromEveryPlace(Check check) {
        MeshRouters x = new MeshRouters();
        for (int p = 0; p < 16; p++) {
            check.due("send from " + p, Mesh.send(x, p, 15 - p, p, p), p + 1);
            check.due("draft() after send", x.draft(), 0);
            check.due("messages()", x.messages(), p + 1);
            check.due("waiting(" + p + ")", x.waiting(p), 1);
        }
        check.due("second send from 4", Mesh.send(x, 4, 4, 1), 17);
        check.due("waiting(4)", x.waiting(4), 2);
        check.due("waiting(5)", x.waiting(5), 1);
        x.settle();
        for (int p = 0; p < 16; p++) {
            check.due("waiting(" + p + ") after settle", x.waiting(p), 0);
        }
        check.due("messages() after settle", x.messages(), 17);
        for (int p : Mesh.NOT_PLACES) {
            check.due("waiting(" + p + ")", x.waiting(p), MeshRouters.BAD);
        }
    }

    private static void refusesWrongArguments(Check check) {
        MeshRouters x = new MeshRouters();
        x.write(6);
        for (int p : Mesh.NOT_PLACES) {
            check.due("send(" + p + ", 0, 0)", x.send(p, 0, 0), MeshRouters.BAD);
            check.due("send(0, " + p + ", 0)", x.send(0, p, 0), MeshRouters.BAD);
        }
        int[] notManners = {-1, 3, 4, Integer.MIN_VALUE, Integer.MAX_VALUE};
        for (int how : notManners) {
            check.due("send(0, 1, " + how + ")", x.send(0, 1, how), MeshRouters.BAD);
        }
        check.due("messages() after BAD", x.messages(), 0);
        check.due("draft() after BAD", x.draft(), 1);
        check.due("waiting(0) after BAD", x.waiting(0), 0);
        check.due("send after BAD", x.send(15, 0, 2), 1);
    }

    private static void refusesAnEmptyDraft(Check check) {
        MeshRouters x = new MeshRouters();
        check.due("send of an empty draft", x.send(0, 1, 0), MeshRouters.BAD);
        Mesh.send(x, 0, 1, 5);
        check.due("send of a draft just sent", x.send(0, 1, 0), MeshRouters.BAD);
        check.due("messages()", x.messages(), 1);
    }

    private static void refusesTheTwentyFirst(Check check) {
        MeshRouters x = Mesh.fullOfWaiting();
        check.due("messages() when full", x.messages(), 20);
        check.due("empty draft before full", x.send(0, 1, 0), MeshRouters.BAD);
        check.due("write when full", x.write(77), 1);
        x.write(88);
        check.due("wrong source before full", x.send(16, 1, 0), MeshRouters.BAD);
        check.due("wrong goal before full", x.send(0, -1, 0), MeshRouters.BAD);
        check.due("wrong manner before full", x.send(0, 1, 3), MeshRouters.BAD);
        check.due("send when full", x.send(0, 1, 0), MeshRouters.FULL);
        check.due("draft() after FULL", x.draft(), 2);
        check.due("messages() after FULL", x.messages(), 20);
        check.due("settle() when full", x.settle(), 20);
        check.due("send when all are there", x.send(0, 1, 0), MeshRouters.FULL);
        check.due("take", x.take(5, 3), 1);
        check.due("messages() after take", x.messages(), 19);
        check.due("send after take", x.send(0, 1, 0), 20);
        check.due("draft() after send", x.draft(), 0);
        x.write(99);
        check.due("send when full again", x.send(0, 1, 0), MeshRouters.FULL);
        check.due("settle()", x.settle(), 1);
        check.due("word 0", x.word(Mesh.both(1, 0), 0, 0), 77);
        check.due("word 1", x.word(Mesh.both(1, 0), 0, 1), 88);
    }

    private static void countsWhatIsThereToo(Check check) {
        MeshRouters x = new MeshRouters();
        Mesh.send(x, 1, 2, 1);
        x.settle();
        check.due("send beside one there", Mesh.send(x, 1, 2, 1), 2);
        check.due("waiting(1)", x.waiting(1), 1);
        check.due("waiting(2)", x.waiting(2), 0);
        x.take(2, 1);
        check.due("messages()", x.messages(), 1);
        check.due("waiting(1) after take", x.waiting(1), 1);
    }

    private static void mannerMakesNoDifference(Check check) {
        for (int how = 0; how <= 2; how++) {
            MeshRouters x = new MeshRouters();
            x.write(31);
            x.write(32);
            check.due("send(0, 15, " + how + ")", x.send(0, 15, how), 1);
            check.due("settle()", x.settle(), 1);
            check.due("crossings()", x.crossings(), 18);
            check.due("word 1", x.word(Mesh.both(15, 0), 0, 1), 32);
        }
    }
}
