/** Promise 18. */
public final class RefusalTest {
    public static void main(String[] args) {
        Check check = new Check();
        changesNothingWithRoom(check);
        changesNothingWhenFull(check);
        check.end();
    }

    private static void changesNothingWithRoom(Check check) {
        MeshRouters x = new MeshRouters();
        Mesh.send(x, 3, 12, 1, 2, 3);
        Mesh.send(x, 3, 12, 4);
        x.settle();
        Mesh.send(x, 3, 12, 5, 6);
        for (int k = 0; k < 5; k++) {
            x.write(70 + k);
        }
        String before = Mesh.look(x);
        check.due("write to a full draft", x.write(99), MeshRouters.FULL);
        for (int p : Mesh.NOT_PLACES) {
            x.send(p, 0, 0);
            x.send(0, p, 0);
            x.hold(p, 0, 1);
            x.waiting(p);
            x.arrived(p, 3);
            x.arrived(12, p);
            x.words(p, 3, 0);
            x.words(12, p, 0);
            x.take(p, 3);
            x.take(12, p);
            x.distance(p, 0);
            x.held(p);
        }
        x.send(0, 1, 3);
        x.hold(0, 0, 1);
        x.hold(0, 4, 1);
        x.hold(0, 1, 51);
        x.words(12, 3, 2);
        x.take(3, 12);
        check.due("refused calls leave all as it was", Mesh.look(x).equals(before), true);
        x.send(12, 3, 1);
        check.due("settle() after refusals", x.settle(), 2);
        for (int k = 0; k < 5; k++) {
            check.due("draft word " + k, x.word(Mesh.both(3, 12), 0, k), 70 + k);
        }
        check.due("word 2 of message 0", x.word(Mesh.both(12, 3), 0, 2), 3);
        check.due("word 0 of message 1", x.word(Mesh.both(12, 3), 1, 0), 4);
        check.due("word 1 of message 2", x.word(Mesh.both(12, 3), 2, 1), 6);
    }

    private static void changesNothingWhenFull(Check check) {
        MeshRouters x = Mesh.fullOfWaiting();
        x.write(31);
        x.write(32);
        String before = Mesh.look(x);
        check.due("send when full", x.send(9, 9, 0), MeshRouters.FULL);
        check.due("FULL leaves all as it was", Mesh.look(x).equals(before), true);
        x.settle();
        before = Mesh.look(x);
        check.due("send when all are there", x.send(9, 9, 0), MeshRouters.FULL);
        check.due("FULL leaves all as it was", Mesh.look(x).equals(before), true);
        for (int m = 0; m < 20; m++) {
            check.due("word of " + m, x.word(Mesh.both(5, m % 16), m / 16, 0), 100 + m);
        }
        x.take(5, 9);
        check.due("send of the kept draft", x.send(9, 9, 0), 20);
        x.settle();
        check.due("word 0 of the kept draft", x.word(Mesh.both(9, 9), 0, 0), 31);
        check.due("word 1 of the kept draft", x.word(Mesh.both(9, 9), 0, 1), 32);
    }
}
