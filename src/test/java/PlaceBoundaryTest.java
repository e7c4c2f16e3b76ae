/** The boundary cases of promises 8, 9, 16 and 17, sentence by sentence. */
public final class PlaceBoundaryTest {
    public static void main(String[] args) {
        Check check = new Check();
        waitingCounts(check);
        waitingAtAWrongPlaceIsBad(check);
        arrivedCounts(check);
        arrivedWithAWrongPlaceIsBad(check);
        heldCounts(check);
        heldAtAWrongPlaceIsBad(check);
        sumOfNothingIsZero(check);
        sumWraps(check);
        sumAtAWrongPlaceIsZero(check);
        check.end();
    }

    private static void waitingCounts(Check check) {
        check.sentence("8: The number of messages waiting at a place (none, twenty, none again)");
        for (int source : new int[] {0, 15}) {
            MeshRouters x = Mesh.twentyOnOneWay(source, 15 - source);
            check.due("waiting(" + source + ") of twenty", x.waiting(source), 20);
            for (int p = 0; p < 16; p++) {
                check.due("waiting(" + p + ")", x.waiting(p), p == source ? 20 : 0);
            }
            x.settle();
            check.due("waiting(" + source + ") after settle", x.waiting(source), 0);
            check.due("waiting at the goal", x.waiting(15 - source), 0);
        }
    }

    private static void waitingAtAWrongPlaceIsBad(Check check) {
        check.sentence("8: BAD when it is not 0 .. 15");
        MeshRouters x = new MeshRouters();
        Mesh.send(x, 0, 1, 5);
        Mesh.send(x, 15, 1, 5);
        for (int p : Mesh.NOT_PLACES) {
            check.due("waiting(" + p + ")", x.waiting(p), MeshRouters.BAD);
            check.due("waiting(" + p + ") of a new object", new MeshRouters().waiting(p), MeshRouters.BAD);
        }
        check.due("waiting(0)", x.waiting(0), 1);
        check.due("waiting(15)", x.waiting(15), 1);
    }

    private static void arrivedCounts(Check check) {
        check.sentence("9: The number of messages from a source that are there at a goal (none to twenty)");
        MeshRouters x = Mesh.twentyOnOneWay(15, 0);
        check.due("arrived(0, 15) while they wait", x.arrived(0, 15), 0);
        x.settle();
        for (int left = 20; left >= 0; left--) {
            check.due("arrived(0, 15)", x.arrived(0, 15), left);
            check.due("arrived(15, 0)", x.arrived(15, 0), 0);
            check.due("arrived(0, 0)", x.arrived(0, 0), 0);
            check.due("arrived(15, 15)", x.arrived(15, 15), 0);
            x.take(0, 15);
        }
        check.due("arrived(0, 15) after a take of none", x.arrived(0, 15), 0);
    }

    private static void arrivedWithAWrongPlaceIsBad(Check check) {
        check.sentence("9: BAD when one is not 0 .. 15");
        MeshRouters x = Mesh.atTheCorners();
        for (int p : Mesh.NOT_PLACES) {
            for (int q : new int[] {0, 1, 15, p}) {
                check.due("arrived(" + p + ", " + q + ")", x.arrived(p, q), MeshRouters.BAD);
                check.due("arrived(" + q + ", " + p + ")", x.arrived(q, p), MeshRouters.BAD);
            }
        }
        check.due("arrived(16, 0) of a new object", new MeshRouters().arrived(16, 0), MeshRouters.BAD);
        check.due("arrived(0, -1) of a new object", new MeshRouters().arrived(0, -1), MeshRouters.BAD);
        check.due("arrived(0, 15)", x.arrived(0, 15), 1);
        check.due("arrived(15, 0)", x.arrived(15, 0), 1);
    }

    private static void heldCounts(Check check) {
        check.sentence("16: The number of messages that are there at a goal, from all sources");
        MeshRouters x = new MeshRouters();
        for (int m = 0; m < 20; m++) {
            check.due("held(15) while they wait", x.held(15), 0);
            Mesh.send(x, m % 16, 15, m);
        }
        x.settle();
        check.due("held(15) of twenty", x.held(15), 20);
        check.due("held(0)", x.held(0), 0);
        for (int m = 0; m < 20; m++) {
            x.take(15, m % 16);
            check.due("held(15) after take", x.held(15), 19 - m);
        }
    }

    private static void heldAtAWrongPlaceIsBad(Check check) {
        check.sentence("16: BAD when it is not 0 .. 15");
        MeshRouters x = Mesh.atTheCorners();
        for (int p : Mesh.NOT_PLACES) {
            check.due("held(" + p + ")", x.held(p), MeshRouters.BAD);
            check.due("held(" + p + ") of a new object", new MeshRouters().held(p), MeshRouters.BAD);
        }
        check.due("held(0)", x.held(0), 3);
        check.due("held(15)", x.held(15), 2);
    }

    private static void sumOfNothingIsZero(Check check) {
        check.sentence("17: of the messages that are there (none is, none is yet, none is any more)");
        MeshRouters x = new MeshRouters();
        check.due("sum(4) of a new object", x.sum(4), 0);
        x.write(3);
        check.due("sum(4) beside a draft", x.sum(4), 0);
        x.send(4, 4, 0);
        check.due("sum(4) while it waits", x.sum(4), 0);
        x.settle();
        check.due("sum(4)", x.sum(4), 3);
        x.take(4, 4);
        check.due("sum(4) after take", x.sum(4), 0);
    }

    private static void sumWraps(Check check) {
        check.sentence("17: The wrapping sum of all words");
        MeshRouters x = new MeshRouters();
        Mesh.send(x, 1, 10, Integer.MAX_VALUE, 1);
        Mesh.send(x, 2, 11, Integer.MIN_VALUE, -1);
        Mesh.send(x, 3, 12, Integer.MAX_VALUE);
        Mesh.send(x, 4, 12, Integer.MAX_VALUE);
        Mesh.send(x, 5, 13, Integer.MIN_VALUE);
        Mesh.send(x, 6, 13, Integer.MIN_VALUE);
        Mesh.send(x, 7, 14, -5, 2, 3, -1);
        x.settle();
        check.due("sum(10), above the greatest int", x.sum(10), Integer.MIN_VALUE);
        check.due("sum(11), below the least int", x.sum(11), Integer.MAX_VALUE);
        check.due("sum(12) over two messages", x.sum(12), -2);
        check.due("sum(13) over two messages", x.sum(13), 0);
        check.due("sum(14), which is not BAD", x.sum(14), -1);

        MeshRouters y = new MeshRouters();
        for (int m = 0; m < 20; m++) {
            Mesh.send(y, 0, 15, Integer.MAX_VALUE, Integer.MAX_VALUE, Integer.MAX_VALUE, Integer.MAX_VALUE, m);
        }
        y.settle();
        check.due("sum(15) of a hundred words", y.sum(15), -80 + 190);
    }

    private static void sumAtAWrongPlaceIsZero(Check check) {
        check.sentence("17: 0 when it is not 0 .. 15");
        MeshRouters x = Mesh.atTheCorners();
        for (int p : Mesh.NOT_PLACES) {
            check.due("sum(" + p + ")", x.sum(p), 0);
            check.due("sum(" + p + ") of a new object", new MeshRouters().sum(p), 0);
        }
        check.due("sum(0)", x.sum(0), 5 + 7 + 9);
        check.due("sum(15)", x.sum(15), 6 + 8);
    }
}
