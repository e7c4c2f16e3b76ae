/** The boundary cases of promises 7, 13 and 15, sentence by sentence. */
public final class SettleBoundaryTest {
    public static void main(String[] args) {
        Check check = new Check();
        settleAnswersHowManyArrived(check);
        crossingsStartAtNothing(check);
        crossingsCountEveryPiece(check);
        crossingsAreSinceTheBeginning(check);
        distanceAtTheCorners(check);
        distanceOfWrongPlacesIsBad(check);
        check.end();
    }

    private static void settleAnswersHowManyArrived(Check check) {
        check.sentence("7: answers how many messages arrived");
        for (int n = 0; n <= 20; n++) {
            MeshRouters x = new MeshRouters();
            for (int m = 0; m < n; m++) {
                Mesh.send(x, m % 16, 15 - m % 16, m);
            }
            check.due("settle() of " + n, x.settle(), n);
            check.due("settle() of none more", x.settle(), 0);
            check.due("messages()", x.messages(), n);
            x.take(15, 0);
            Mesh.send(x, 0, 0, 1);
            check.due("settle() of one beside " + n, x.settle(), 1);
        }
        MeshRouters x = new MeshRouters();
        x.write(1);
        check.due("settle() of a draft alone", x.settle(), 0);
        check.due("draft()", x.draft(), 1);
    }

    private static void crossingsStartAtNothing(Check check) {
        check.sentence("13: How often a piece has crossed a line (none has, before a message arrives)");
        MeshRouters x = new MeshRouters();
        check.due("crossings() of a new object", x.crossings(), 0);
        x.settle();
        check.due("crossings() after settle of none", x.crossings(), 0);
        Mesh.send(x, 6, 6, 1, 2, 3, 4, 5);
        x.settle();
        check.due("crossings() where goal is source", x.crossings(), 0);
        Mesh.send(x, 0, 1, 1);
        check.due("crossings() while one waits", x.crossings(), 0);
        x.settle();
        check.due("crossings() of the least way", x.crossings(), 2);
    }

    private static void crossingsCountEveryPiece(Check check) {
        check.sentence("13 and Terms: n words travel in n + 1 pieces, each over as many lines as the distance");
        int[][] ways = {{0, 0, 0}, {0, 1, 1}, {0, 4, 1}, {3, 4, 4}, {12, 3, 6}, {15, 0, 6}, {0, 15, 6}, {7, 8, 4}};
        for (int[] way : ways) {
            for (int n = 1; n <= 5; n++) {
                MeshRouters x = new MeshRouters();
                Mesh.send(x, way[0], way[1], new int[n]);
                x.settle();
                check.due("crossings() of " + n + " words from " + way[0] + " to " + way[1],
                    x.crossings(), (n + 1) * way[2]);
            }
        }
        MeshRouters x = new MeshRouters();
        for (int m = 0; m < 20; m++) {
            Mesh.send(x, 15, 0, 1, 2, 3, 4, 5);
        }
        x.settle();
        check.due("crossings() of the greatest load", x.crossings(), 720);
    }

    private static void crossingsAreSinceTheBeginning(Check check) {
        check.sentence("13: since the beginning");
        MeshRouters x = new MeshRouters();
        for (int round = 1; round <= 20; round++) {
            Mesh.send(x, 0, 15, 7);
            x.settle();
            check.due("crossings() in round " + round, x.crossings(), 12 * round);
            x.settle();
            check.due("crossings() after settle of none", x.crossings(), 12 * round);
            x.take(15, 0);
            check.due("crossings() after take", x.crossings(), 12 * round);
            x.wipe();
            check.due("crossings() after wipe", x.crossings(), 12 * round);
        }
        check.due("messages()", x.messages(), 0);
    }

    private static void distanceAtTheCorners(Check check) {
        check.sentence("15 and Terms: the difference of their columns plus that of their rows");
        int[][] ways = {
            {0, 0, 0}, {15, 15, 0}, {0, 3, 3}, {0, 12, 3}, {0, 15, 6}, {3, 12, 6}, {3, 4, 4}, {7, 8, 4}, {11, 12, 4},
        };
        MeshRouters x = new MeshRouters();
        for (int[] way : ways) {
            check.due("distance(" + way[0] + ", " + way[1] + ")", x.distance(way[0], way[1]), way[2]);
            check.due("distance(" + way[1] + ", " + way[0] + ")", x.distance(way[1], way[0]), way[2]);
        }
    }

    private static void distanceOfWrongPlacesIsBad(Check check) {
        check.sentence("15: BAD when one is not 0 .. 15");
        MeshRouters x = new MeshRouters();
        for (int p : Mesh.NOT_PLACES) {
            for (int q : new int[] {0, 6, 15}) {
                check.due("distance(" + p + ", " + q + ")", x.distance(p, q), MeshRouters.BAD);
                check.due("distance(" + q + ", " + p + ")", x.distance(q, p), MeshRouters.BAD);
            }
            for (int q : Mesh.NOT_PLACES) {
                check.due("distance(" + p + ", " + q + ")", x.distance(p, q), MeshRouters.BAD);
            }
        }
    }
}
