/** Promises 7, 13 and 15. */
public final class SettleTest {
    public static void main(String[] args) {
        Check check = new Check();
        countsArrivals(check);
        countsCrossings(check);
        tellsEveryDistance(check);
        check.end();
    }

    private static void countsArrivals(Check check) {
        MeshRouters x = new MeshRouters();
        check.due("settle() of nothing", x.settle(), 0);
        Mesh.send(x, 0, 15, 1);
        Mesh.send(x, 3, 3, 2);
        x.write(8);
        check.due("settle() of two", x.settle(), 2);
        check.due("draft() after settle", x.draft(), 1);
        check.due("settle() again", x.settle(), 0);
        check.due("crossings() after both", x.crossings(), 12);
        check.due("messages()", x.messages(), 2);
        Mesh.send(x, 0, 15, 3);
        check.due("settle() of one more", x.settle(), 1);
        check.due("arrived(15, 0)", x.arrived(15, 0), 2);
        check.due("arrived(3, 3)", x.arrived(3, 3), 1);
        check.due("settle() of twenty", Mesh.fullOfWaiting().settle(), 20);
    }

    private static void countsCrossings(Check check) {
        MeshRouters x = new MeshRouters();
        int want = 0;
        for (int n = 1; n <= 5; n++) {
            for (int k = 0; k < n; k++) {
                x.write(k);
            }
            x.send(4, 11, 0);
            check.due("crossings() while waiting", x.crossings(), want);
            x.settle();
            want += (n + 1) * 4;
            check.due("crossings() of " + n + " words", x.crossings(), want);
        }
        Mesh.send(x, 6, 6, 1, 2, 3);
        x.settle();
        check.due("crossings() without a way", x.crossings(), want);
        x.take(11, 4);
        check.due("crossings() after take", x.crossings(), want);
        x.write(1);
        x.wipe();
        check.due("crossings() after wipe", x.crossings(), want);
    }

    private static void tellsEveryDistance(Check check) {
        MeshRouters x = new MeshRouters();
        for (int a = 0; a < 16; a++) {
            for (int b = 0; b < 16; b++) {
                check.due("distance(" + a + ", " + b + ")", x.distance(a, b), stepsBetween(a, b));
            }
        }
        check.due("distance(0, 15)", x.distance(0, 15), 6);
        check.due("distance(12, 3)", x.distance(12, 3), 6);
        check.due("distance(3, 4)", x.distance(3, 4), 4);
        check.due("distance(9, 9)", x.distance(9, 9), 0);
    }

    /** Walks one line at a time, so that the program's own sum isn't copied here. */
    private static int stepsBetween(int a, int b) {
        int steps = 0;
        int at = a;
        while (at % 4 != b % 4) {
            at += at % 4 < b % 4 ? 1 : -1;
            steps++;
        }
        while (at != b) {
            at += at < b ? 4 : -4;
            steps++;
        }
        return steps;
    }
}
