/** "An object is used for at most 512 calls after it has been made": all answers up to the last one are due. */
public final class CallLimitTest {
    private static final int CALLS = 512;

    public static void main(String[] args) {
        Check check = new Check();
        check.sentence("What it is: at most 512 calls");
        sendsAndTakesToTheLastCall(check);
        isRefusedToTheLastCall(check);
        crossesToTheLastCall(check);
        check.sentence("LANGUAGE.md, rule 7: no call may ever throw");
        throwsNothingAfterThat(check);
        check.end();
    }

    private static void sendsAndTakesToTheLastCall(Check check) {
        MeshRouters x = new MeshRouters();
        for (int round = 0; round < CALLS / 4; round++) {
            int source = round % 16;
            int goal = round / 8;
            check.due("write in round " + round, x.write(round), 1);
            check.due("send in round " + round, x.send(source, goal, round % 3), 1);
            check.due("settle in round " + round, x.settle(), 1);
            check.due("take in round " + round, x.take(goal, source), 1);
        }
    }

    private static void isRefusedToTheLastCall(Check check) {
        MeshRouters x = new MeshRouters();
        for (int n = 1; n <= 5; n++) {
            check.due("write " + n, x.write(n), n);
        }
        for (int call = 6; call < CALLS; call++) {
            check.due("call " + call, x.write(call), MeshRouters.FULL);
        }
        check.due("call 512, wipe()", x.wipe(), 5);

        MeshRouters y = new MeshRouters();
        for (int call = 1; call < CALLS; call++) {
            check.due("call " + call, y.send(0, 15, 0), MeshRouters.BAD);
        }
        check.due("call 512, messages()", y.messages(), 0);
    }

    private static void crossesToTheLastCall(Check check) {
        MeshRouters x = new MeshRouters();
        int calls = 0;
        for (int batch = 0; batch < 3; batch++) {
            calls += sendLongest(x, 20);
            check.due("settle of batch " + batch, x.settle(), 20);
            for (int m = 0; m < 20; m++) {
                check.due("take " + m + " of batch " + batch, x.take(0, 15), 5);
            }
            calls += 21;
        }
        calls += sendLongest(x, 14);
        check.due("settle of the rest", x.settle(), 14);
        calls++;
        while (calls < CALLS - 1) {
            check.due("draft()", x.draft(), 0);
            calls++;
        }
        check.due("call 512, crossings()", x.crossings(), 3 * 20 * 36 + 14 * 36);
    }

    private static int sendLongest(MeshRouters x, int messages) {
        for (int m = 0; m < messages; m++) {
            Mesh.send(x, 15, 0, 1, 2, 3, 4, 5);
        }
        return messages * 6;
    }

    private static void throwsNothingAfterThat(Check check) {
        int[] odd = {Integer.MIN_VALUE, -256, -16, -1, 0, 1, 4, 5, 15, 16, 19, 20, 50, 255, 256, Integer.MAX_VALUE};
        MeshRouters x = new MeshRouters();
        int rounds = 0;
        for (int a : odd) {
            for (int b : odd) {
                for (int c : odd) {
                    callAll(x, a, b, c);
                    rounds++;
                }
            }
        }
        check.due("rounds of calls without a throw", rounds, odd.length * odd.length * odd.length);
    }

    private static void callAll(MeshRouters x, int a, int b, int c) {
        x.write(a);
        x.send(a, b, c);
        x.write(b);
        x.send(1, 1, 1);
        x.hold(a, b, c);
        x.settle();
        x.waiting(a);
        x.arrived(a, b);
        x.words(a, b, c);
        x.word(a, b, c);
        x.held(a);
        x.sum(a);
        x.distance(a, b);
        x.messages();
        x.crossings();
        x.draft();
        if ((a ^ b ^ c) % 3 == 0) {
            x.take(a, b);
            x.take(1, 1);
            x.wipe();
        }
    }
}
