/** Steps that many tests share. Every object stays within its 512 calls. */
final class Mesh {
    static final int[] NOT_PLACES = {-1, 16, 17, -16, 256, Integer.MIN_VALUE, Integer.MAX_VALUE};

    private Mesh() {
    }

    static int send(MeshRouters x, int source, int goal, int... words) {
        for (int v : words) {
            x.write(v);
        }
        return x.send(source, goal, 0);
    }

    static int both(int goal, int source) {
        return goal + 16 * source;
    }

    static MeshRouters fullOfWaiting() {
        MeshRouters x = new MeshRouters();
        for (int m = 0; m < 20; m++) {
            send(x, m % 16, 5, 100 + m);
        }
        return x;
    }

    /** What an object shows of itself but for the words of single messages; 51 calls. */
    static String look(MeshRouters x) {
        StringBuilder seen = new StringBuilder();
        seen.append(x.draft()).append(' ').append(x.messages()).append(' ').append(x.crossings());
        for (int p = 0; p < 16; p++) {
            seen.append(' ').append(x.waiting(p)).append('/').append(x.held(p)).append('/').append(x.sum(p));
        }
        return seen.toString();
    }
}
