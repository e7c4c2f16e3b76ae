/** Steps that many tests share. Every object stays within its 512 calls. */
final class Mesh {
    /** Too small, too large, and numbers that a mask or a narrower type would take for a place. */
    static final int[] NOT_PLACES = {
        -1, 16, 17, -16, 32, 256, 65536, -65536, Integer.MIN_VALUE, Integer.MIN_VALUE + 5, Integer.MAX_VALUE,
    };

    private Mesh() {
    }

    static int send(MeshRouters x, int source, int goal, int... words) {
        for (int v : words) {
            x.write(v);
        }
        return x.send(source, goal, 0);
    }

    static int both(int goal, int source) {
        return goal + 16 * source;
    }

    static MeshRouters fullOfWaiting() {
        MeshRouters x = new MeshRouters();
        for (int m = 0; m < 20; m++) {
            send(x, m % 16, 5, 100 + m);
        }
        return x;
    }

    /** Twenty messages of one word, 100 to 119, from one source to one goal. */
    static MeshRouters twentyOnOneWay(int source, int goal) {
        MeshRouters x = new MeshRouters();
        for (int m = 0; m < 20; m++) {
            send(x, source, goal, 100 + m);
        }
        return x;
    }

    /** Messages there between places that a wrong number could be taken for. */
    static MeshRouters atTheCorners() {
        MeshRouters x = new MeshRouters();
        send(x, 0, 0, 5);
        send(x, 15, 15, 6);
        send(x, 15, 0, 7);
        send(x, 0, 15, 8);
        send(x, 1, 0, 9);
        x.settle();
        return x;
    }

    /** What an object shows of itself but for the words of single messages; 51 calls. */
    static String look(MeshRouters x) {
        StringBuilder seen = new StringBuilder();
        seen.append(x.draft()).append(' ').append(x.messages()).append(' ').append(x.crossings());
        for (int p = 0; p < 16; p++) {
            seen.append(' ').append(x.waiting(p)).append('/').append(x.held(p)).append('/').append(x.sum(p));
        }
        return seen.toString();
    }
}
