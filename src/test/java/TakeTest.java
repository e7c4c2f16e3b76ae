/** Promise 12. */
public final class TakeTest {
    public static void main(String[] args) {
        Check check = new Check();
        takesTheFirstSent(check);
        leavesTheOthersWhole(check);
        leavesOtherGoalsAlone(check);
        makesRoom(check);
        check.end();
    }

    private static void takesTheFirstSent(Check check) {
        MeshRouters x = new MeshRouters();
        Mesh.send(x, 2, 6, 1, 2, 3);
        Mesh.send(x, 2, 6, 4);
        Mesh.send(x, 2, 6, 5, 6, 7, 8, 9);
        x.settle();
        check.due("take 1", x.take(6, 2), 3);
        check.due("arrived(6, 2)", x.arrived(6, 2), 2);
        check.due("words(6, 2, 0)", x.words(6, 2, 0), 1);
        check.due("word of the first left", x.word(Mesh.both(6, 2), 0, 0), 4);
        check.due("word of the second left", x.word(Mesh.both(6, 2), 1, 4), 9);
        check.due("take 2", x.take(6, 2), 1);
        check.due("take 3", x.take(6, 2), 5);
        check.due("take 4", x.take(6, 2), MeshRouters.BAD);
        check.due("messages()", x.messages(), 0);
        check.due("held(6)", x.held(6), 0);
        check.due("sum(6)", x.sum(6), 0);
    }

    private static void leavesTheOthersWhole(Check check) {
        MeshRouters x = new MeshRouters();
        Mesh.send(x, 1, 9, 10);
        Mesh.send(x, 2, 9, 20, 21);
        Mesh.send(x, 3, 9, 30, 31, 32);
        Mesh.send(x, 4, 9, 40, 41, 42, 43, 44);
        x.settle();
        Mesh.send(x, 5, 9, 50, 51);
        x.write(60);
        check.due("take(9, 2)", x.take(9, 2), 2);
        check.due("draft() after take", x.draft(), 1);
        check.due("waiting(5) after take", x.waiting(5), 1);
        check.due("held(9)", x.held(9), 3);
        check.due("words(9, 1, 0)", x.words(9, 1, 0), 1);
        check.due("words(9, 2, 0)", x.words(9, 2, 0), MeshRouters.BAD);
        check.due("words(9, 3, 0)", x.words(9, 3, 0), 3);
        check.due("words(9, 4, 0)", x.words(9, 4, 0), 5);
        for (int k = 0; k < 5; k++) {
            check.due("word " + k + " from 4", x.word(Mesh.both(9, 4), 0, k), 40 + k);
        }
        check.due("settle() after take", x.settle(), 1);
        check.due("word 1 from 5", x.word(Mesh.both(9, 5), 0, 1), 51);
        check.due("take of the last", x.take(9, 5), 2);
        check.due("sum(9)", x.sum(9), 10 + 93 + 210);
    }

    private static void leavesOtherGoalsAlone(Check check) {
        MeshRouters x = new MeshRouters();
        for (int goal = 0; goal < 16; goal++) {
            Mesh.send(x, 7, goal, goal, 2 * goal);
        }
        x.settle();
        check.due("take(3, 7)", x.take(3, 7), 2);
        for (int goal = 0; goal < 16; goal++) {
            check.due("held(" + goal + ")", x.held(goal), goal == 3 ? 0 : 1);
            check.due("sum(" + goal + ")", x.sum(goal), goal == 3 ? 0 : 3 * goal);
        }
    }

    private static void makesRoom(Check check) {
        MeshRouters x = Mesh.fullOfWaiting();
        x.settle();
        // Sources 0 .. 3 sent two each: first 100 + p, then 116 + p.
        check.due("take(5, 0)", x.take(5, 0), 1);
        check.due("word from 0", x.word(Mesh.both(5, 0), 0, 0), 116);
        check.due("send into the room", Mesh.send(x, 0, 5, 7, 8), 20);
        x.settle();
        check.due("words(5, 0, 0)", x.words(5, 0, 0), 1);
        check.due("words(5, 0, 1)", x.words(5, 0, 1), 2);
        for (int p = 0; p < 16; p++) {
            for (int left = x.arrived(5, p); left > 0; left--) {
                x.take(5, p);
            }
            check.due("arrived(5, " + p + ")", x.arrived(5, p), 0);
        }
        check.due("messages()", x.messages(), 0);
        check.due("send after all", Mesh.send(x, 0, 5, 7), 1);
    }
}
