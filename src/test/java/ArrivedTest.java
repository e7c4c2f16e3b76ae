/** Promises 9, 10, 11, 16 and 17. */
public final class ArrivedTest {
    public static void main(String[] args) {
        Check check = new Check();
        showsNothingThatWaits(check);
        tellsSourcesAndGoalsApart(check);
        keepsTheOrderOfSending(check);
        check.end();
    }

    private static void showsNothingThatWaits(Check check) {
        MeshRouters x = new MeshRouters();
        Mesh.send(x, 7, 7, 3, 4);
        check.due("arrived(7, 7) before settle", x.arrived(7, 7), 0);
        check.due("words(7, 7, 0) before settle", x.words(7, 7, 0), MeshRouters.BAD);
        check.due("word before settle", x.word(Mesh.both(7, 7), 0, 0), 0);
        check.due("held(7) before settle", x.held(7), 0);
        check.due("sum(7) before settle", x.sum(7), 0);
        x.settle();
        check.due("arrived(7, 7)", x.arrived(7, 7), 1);
        check.due("words(7, 7, 0)", x.words(7, 7, 0), 2);
        check.due("word", x.word(Mesh.both(7, 7), 0, 0), 3);
        check.due("held(7)", x.held(7), 1);
        check.due("sum(7)", x.sum(7), 7);
        Mesh.send(x, 7, 7, 100);
        check.due("arrived(7, 7) beside one waiting", x.arrived(7, 7), 1);
        check.due("words(7, 7, 1) beside one waiting", x.words(7, 7, 1), MeshRouters.BAD);
        check.due("held(7) beside one waiting", x.held(7), 1);
        check.due("sum(7) beside one waiting", x.sum(7), 7);
    }

    private static void tellsSourcesAndGoalsApart(Check check) {
        MeshRouters x = new MeshRouters();
        Mesh.send(x, 1, 2, 10, 11, 12);
        Mesh.send(x, 2, 1, 20);
        Mesh.send(x, 0, 2, 30, 31);
        Mesh.send(x, 15, 0, 40);
        Mesh.send(x, 0, 15, 50, 51);
        x.settle();
        check.due("arrived(2, 1)", x.arrived(2, 1), 1);
        check.due("arrived(1, 2)", x.arrived(1, 2), 1);
        check.due("arrived(2, 0)", x.arrived(2, 0), 1);
        check.due("arrived(0, 2)", x.arrived(0, 2), 0);
        check.due("words(2, 1, 0)", x.words(2, 1, 0), 3);
        check.due("words(1, 2, 0)", x.words(1, 2, 0), 1);
        check.due("words(2, 0, 0)", x.words(2, 0, 0), 2);
        check.due("word(18, 0, 2)", x.word(18, 0, 2), 12);
        check.due("word(33, 0, 0)", x.word(33, 0, 0), 20);
        check.due("word(2, 0, 1)", x.word(2, 0, 1), 31);
        check.due("word(240, 0, 0)", x.word(240, 0, 0), 40);
        check.due("word(15, 0, 1)", x.word(15, 0, 1), 51);
        check.due("held(2)", x.held(2), 2);
        check.due("held(1)", x.held(1), 1);
        check.due("held(3)", x.held(3), 0);
        check.due("sum(2)", x.sum(2), 94);
        check.due("sum(1)", x.sum(1), 20);
        check.due("sum(3)", x.sum(3), 0);
        check.due("sum(15)", x.sum(15), 101);
    }

    private static void keepsTheOrderOfSending(Check check) {
        MeshRouters x = new MeshRouters();
        Mesh.send(x, 3, 8, 1);
        Mesh.send(x, 4, 8, 9, 9, 9);
        Mesh.send(x, 3, 8, 2, 3);
        x.settle();
        Mesh.send(x, 3, 9, 9, 9, 9);
        Mesh.send(x, 3, 8, 4, 5, 6, 7, 8);
        x.settle();
        int[] lengths = {1, 2, 5};
        int next = 1;
        check.due("arrived(8, 3)", x.arrived(8, 3), 3);
        for (int i = 0; i < 3; i++) {
            check.due("words(8, 3, " + i + ")", x.words(8, 3, i), lengths[i]);
            for (int k = 0; k < lengths[i]; k++) {
                check.due("word " + k + " of " + i, x.word(Mesh.both(8, 3), i, k), next);
                next++;
            }
        }
        check.due("held(8)", x.held(8), 4);
    }
}
