/** Promise 6. */
public final class HoldTest {
    // For each place the directions that lead to a neighbour, drawn by hand.
    private static final String[] LINES = {
        "12", "123", "123", "23",
        "012", "0123", "0123", "023",
        "012", "0123", "0123", "023",
        "01", "013", "013", "03",
    };

    public static void main(String[] args) {
        Check check = new Check();
        knowsEveryLine(check);
        check.end();
    }

    private static void knowsEveryLine(Check check) {
        MeshRouters x = new MeshRouters();
        for (int p = 0; p < 16; p++) {
            for (int d = 0; d < 4; d++) {
                boolean line = LINES[p].indexOf('0' + d) >= 0;
                check.due("hold(" + p + ", " + d + ", 0)", x.hold(p, d, 0), line);
                check.due("hold(" + p + ", " + d + ", 50)", x.hold(p, d, 50), line);
            }
        }
    }
}
