/** Promise 6. */
public final class HoldTest {
    // For each place the directions that lead to a neighbour, drawn by hand.
    private static final String[] LINES = {
        "12", "123", "123", "23",
        "012", "0123", "0123", "023",
        "012", "0123", "0123", "023",
        "01", "013", "013", "03",
    };

    public static void main(String[] args) {
        Check check = new Check();
        knowsEveryLine(check);
        refusesWrongArguments(check);
        changesNothing(check);
        check.end();
    }

    private static void knowsEveryLine(Check check) {
        MeshRouters x = new MeshRouters();
        for (int p = 0; p < 16; p++) {
            for (int d = 0; d < 4; d++) {
                boolean line = LINES[p].indexOf('0' + d) >= 0;
                check.due("hold(" + p + ", " + d + ", 0)", x.hold(p, d, 0), line);
                check.due("hold(" + p + ", " + d + ", 50)", x.hold(p, d, 50), line);
            }
        }
    }

    private static void refusesWrongArguments(Check check) {
        MeshRouters x = new MeshRouters();
        for (int d = 0; d < 4; d++) {
            for (int p : Mesh.NOT_PLACES) {
                check.due("hold(" + p + ", " + d + ", 1)", x.hold(p, d, 1), false);
            }
        }
        int[] notDirections = {-1, 4, 5, Integer.MIN_VALUE, Integer.MAX_VALUE};
        for (int d : notDirections) {
            check.due("hold(5, " + d + ", 1)", x.hold(5, d, 1), false);
        }
        int[] notMoments = {-1, 51, Integer.MIN_VALUE, Integer.MAX_VALUE};
        for (int moments : notMoments) {
            check.due("hold(5, 1, " + moments + ")", x.hold(5, 1, moments), false);
        }
        check.due("hold(5, 1, 1)", x.hold(5, 1, 1), true);
    }

    private static void changesNothing(Check check) {
        MeshRouters x = new MeshRouters();
        Mesh.send(x, 0, 3, 1, 2);
        x.write(4);
        String before = Mesh.look(x);
        for (int p = 0; p < 16; p++) {
            for (int d = 0; d < 4; d++) {
                x.hold(p, d, 50);
            }
        }
        check.due("hold leaves all as it was", Mesh.look(x).equals(before), true);
        check.due("settle() with every line held", x.settle(), 1);
        check.due("crossings()", x.crossings(), 9);
        check.due("arrived(3, 0)", x.arrived(3, 0), 1);
    }
}
