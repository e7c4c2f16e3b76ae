/** The boundary cases of promise 6, and what "Terms" says of lines held up. */
public final class HoldBoundaryTest {
    public static void main(String[] args) {
        Check check = new Check();
        wrongPlaceIsFalse(check);
        wrongDirectionIsFalse(check);
        wrongMomentsAreFalse(check);
        noSuchLineIsFalse(check);
        makesNoDifference(check);
        check.end();
    }

    private static void wrongPlaceIsFalse(Check check) {
        check.sentence("6: false when p is not 0 .. 15");
        MeshRouters x = new MeshRouters();
        for (int p : Mesh.NOT_PLACES) {
            for (int d = 0; d < 4; d++) {
                check.due("hold(" + p + ", " + d + ", 1)", x.hold(p, d, 1), false);
            }
        }
        check.due("hold(0, 1, 1)", x.hold(0, 1, 1), true);
        check.due("hold(15, 0, 1)", x.hold(15, 0, 1), true);
    }

    private static void wrongDirectionIsFalse(Check check) {
        check.sentence("6: false when direction is not 0 .. 3");
        MeshRouters x = new MeshRouters();
        int[] notDirections = {-1, -4, 4, 5, 256, 65536, Integer.MIN_VALUE, Integer.MAX_VALUE};
        for (int p = 0; p < 16; p++) {
            for (int d : notDirections) {
                check.due("hold(" + p + ", " + d + ", 1)", x.hold(p, d, 1), false);
            }
        }
        // Place 5 has a neighbour on each side.
        for (int d = 0; d < 4; d++) {
            check.due("hold(5, " + d + ", 1)", x.hold(5, d, 1), true);
        }
    }

    private static void wrongMomentsAreFalse(Check check) {
        check.sentence("6: false when moments are not 0 .. 50");
        MeshRouters x = new MeshRouters();
        int[] notMoments = {-1, 51, 52, -50, 256, 65536, Integer.MIN_VALUE, Integer.MAX_VALUE};
        for (int moments : notMoments) {
            for (int d = 0; d < 4; d++) {
                check.due("hold(10, " + d + ", " + moments + ")", x.hold(10, d, moments), false);
            }
        }
        for (int moments = 0; moments <= 50; moments++) {
            check.due("hold(10, 1, " + moments + ")", x.hold(10, 1, moments), true);
        }
    }

    private static void noSuchLineIsFalse(Check check) {
        check.sentence("6: false when there is no such line");
        MeshRouters x = new MeshRouters();
        for (int n = 0; n < 4; n++) {
            edge(check, x, n, 0);
            edge(check, x, 4 * n + 3, 1);
            edge(check, x, 12 + n, 2);
            edge(check, x, 4 * n, 3);
        }
    }

    /** Nothing lies beyond p in direction d, and there is a line the other way. */
    private static void edge(Check check, MeshRouters x, int p, int d) {
        for (int moments : new int[] {0, 1, 50}) {
            check.due("hold(" + p + ", " + d + ", " + moments + ")", x.hold(p, d, moments), false);
            int back = (d + 2) % 4;
            check.due("hold(" + p + ", " + back + ", " + moments + ")", x.hold(p, back, moments), true);
        }
    }

    private static void makesNoDifference(Check check) {
        check.sentence("6: which makes no difference to any answer; Terms: however lines were held up");
        for (int moments : new int[] {0, 1, 50}) {
            MeshRouters free = new MeshRouters();
            MeshRouters held = new MeshRouters();
            Mesh.send(free, 0, 15, 1, 2);
            Mesh.send(held, 0, 15, 1, 2);
            holdEveryLine(held, moments);
            check.same("before settle", Mesh.look(held), Mesh.look(free));
            check.due("settle() with every line held", held.settle(), free.settle());
            check.due("crossings()", held.crossings(), 18);
            check.same("after settle", Mesh.look(held), Mesh.look(free));
            holdEveryLine(held, moments);
            Mesh.send(free, 5, 12, 3);
            Mesh.send(held, 5, 12, 3);
            check.due("settle() held again", held.settle(), free.settle());
            check.same("after the second settle", Mesh.look(held), Mesh.look(free));
        }
    }

    private static void holdEveryLine(MeshRouters x, int moments) {
        for (int p = 0; p < 16; p++) {
            for (int d = 0; d < 4; d++) {
                x.hold(p, d, moments);
            }
        }
    }
}
