import java.util.ArrayList;
import java.util.List;

/** Long mixed runs beside a second, independent telling of the document; all promises. */
public final class ModelTest {
    private static final int RUNS = 3000;
    private static final int CALLS = 512;

    private record Message(int source, int goal, List<Integer> words) {
    }

    private final Check check;
    private final MeshRouters x = new MeshRouters();
    private final List<Integer> draft = new ArrayList<>();
    private final List<Message> waiting = new ArrayList<>();
    private final List<Message> there = new ArrayList<>();
    private int crossings = 0;
    private long seed;
    private final int span;

    private ModelTest(Check check, long seed) {
        this.check = check;
        this.seed = seed * 0x9E3779B97F4A7C15L + 1;
        // Few places in some runs, so that many messages share source and goal.
        this.span = new int[] {1, 2, 4, 16}[(int) (seed % 4)];
    }

    public static void main(String[] args) {
        Check check = new Check();
        for (int run = 0; run < RUNS; run++) {
            ModelTest test = new ModelTest(check, run);
            for (int call = 0; call < CALLS; call++) {
                test.step("run " + run + ", call " + call + ": ");
            }
        }
        check.end();
    }

    private int pick(int bound) {
        seed = seed * 6364136223846793005L + 1442695040888963407L;
        return (int) ((seed >>> 33) % bound);
    }

    private int place() {
        return pick(40) == 0 ? Mesh.NOT_PLACES[pick(Mesh.NOT_PLACES.length)] : pick(span) * (16 / span);
    }

    private static boolean bad(int p) {
        return p < 0 || p > 15;
    }

    private static int distance(int a, int b) {
        return Math.abs(a % 4 - b % 4) + Math.abs(a / 4 - b / 4);
    }

    private List<Message> at(int goal, int source) {
        List<Message> found = new ArrayList<>();
        for (Message m : there) {
            if (m.goal == goal && m.source == source) {
                found.add(m);
            }
        }
        return found;
    }

    private void step(String where) {
        int kind = pick(32);
        if (kind < 8) {
            write(where);
        } else if (kind < 14) {
            send(where);
        } else if (kind < 17) {
            take(where);
        } else if (kind == 17) {
            settle(where);
        } else if (kind == 18) {
            wipe(where);
        } else {
            ask(where, kind);
        }
    }

    private void write(String where) {
        int v = pick(3) == 0 ? pick(1 << 30) * 4 + pick(4) : pick(100);
        int want = MeshRouters.FULL;
        if (draft.size() < 5) {
            draft.add(v);
            want = draft.size();
        }
        check.due(where + "write(" + v + ")", x.write(v), want);
    }

    private void wipe(String where) {
        int want = draft.size();
        draft.clear();
        check.due(where + "wipe()", x.wipe(), want);
    }

    private void send(String where) {
        int source = place();
        int goal = place();
        int how = pick(30) == 0 ? 3 - 4 * pick(2) : pick(3);
        int want;
        if (bad(source) || bad(goal) || how < 0 || how > 2 || draft.isEmpty()) {
            want = MeshRouters.BAD;
        } else if (waiting.size() + there.size() == 20) {
            want = MeshRouters.FULL;
        } else {
            waiting.add(new Message(source, goal, new ArrayList<>(draft)));
            draft.clear();
            want = waiting.size() + there.size();
        }
        check.due(where + "send(" + source + ", " + goal + ", " + how + ")", x.send(source, goal, how), want);
    }

    private void settle(String where) {
        int want = waiting.size();
        for (Message m : waiting) {
            crossings += (m.words.size() + 1) * distance(m.source, m.goal);
        }
        // All that waited were sent after all that were there.
        there.addAll(waiting);
        waiting.clear();
        check.due(where + "settle()", x.settle(), want);
    }

    private void take(String where) {
        int goal = place();
        int source = place();
        if (!there.isEmpty() && pick(2) == 0) {
            Message m = there.get(pick(there.size()));
            goal = m.goal;
            source = m.source;
        }
        int want = MeshRouters.BAD;
        List<Message> those = at(goal, source);
        if (!those.isEmpty()) {
            Message first = those.get(0);
            want = first.words.size();
            there.removeIf(m -> m == first);
        }
        check.due(where + "take(" + goal + ", " + source + ")", x.take(goal, source), want);
    }

    private void ask(String where, int kind) {
        int goal = place();
        int source = place();
        int i = pick(6) - 1;
        if (!there.isEmpty() && pick(2) == 0) {
            Message m = there.get(pick(there.size()));
            goal = m.goal;
            source = m.source;
        }
        switch (kind) {
            case 19 -> check.due(where + "draft()", x.draft(), draft.size());
            case 20 -> check.due(where + "messages()", x.messages(), waiting.size() + there.size());
            case 21 -> check.due(where + "crossings()", x.crossings(), crossings);
            case 22 -> askWaiting(where, source);
            case 23 -> check.due(where + "arrived(" + goal + ", " + source + ")", x.arrived(goal, source),
                bad(goal) || bad(source) ? MeshRouters.BAD : at(goal, source).size());
            case 24, 25 -> askWords(where, goal, source, i);
            case 26, 27 -> askWord(where, goal, source, i);
            case 28 -> askDistance(where, goal, source);
            case 29 -> askHeld(where, goal);
            case 30 -> askSum(where, goal);
            default -> askHold(where, source);
        }
    }

    private void askWaiting(String where, int source) {
        long want = bad(source) ? MeshRouters.BAD : waiting.stream().filter(m -> m.source == source).count();
        check.due(where + "waiting(" + source + ")", x.waiting(source), want);
    }

    private void askWords(String where, int goal, int source, int i) {
        List<Message> those = at(goal, source);
        int want = i >= 0 && i < those.size() ? those.get(i).words.size() : MeshRouters.BAD;
        check.due(where + "words(" + goal + ", " + source + ", " + i + ")", x.words(goal, source, i), want);
    }

    private void askWord(String where, int goal, int source, int i) {
        int k = pick(7) - 1;
        boolean wrong = bad(goal) || bad(source);
        int outside = pick(2) == 0 ? -1 - pick(300) : 256 + pick(300);
        int both = wrong ? outside : goal + 16 * source;
        List<Message> those = wrong ? List.of() : at(goal, source);
        int want = 0;
        if (i >= 0 && i < those.size() && k >= 0 && k < those.get(i).words.size()) {
            want = those.get(i).words.get(k);
        }
        check.due(where + "word(" + both + ", " + i + ", " + k + ")", x.word(both, i, k), want);
    }

    private void askDistance(String where, int a, int b) {
        int want = bad(a) || bad(b) ? MeshRouters.BAD : distance(a, b);
        check.due(where + "distance(" + a + ", " + b + ")", x.distance(a, b), want);
    }

    private void askHeld(String where, int goal) {
        long want = bad(goal) ? MeshRouters.BAD : there.stream().filter(m -> m.goal == goal).count();
        check.due(where + "held(" + goal + ")", x.held(goal), want);
    }

    private void askSum(String where, int goal) {
        int want = 0;
        for (Message m : there) {
            for (int v : m.words) {
                want += m.goal == goal ? v : 0;
            }
        }
        check.due(where + "sum(" + goal + ")", x.sum(goal), want);
    }

    private void askHold(String where, int p) {
        int direction = pick(6) - 1;
        int moments = pick(54) - 1;
        int column = p % 4 + (direction == 1 ? 1 : direction == 3 ? -1 : 0);
        int row = p / 4 + (direction == 2 ? 1 : direction == 0 ? -1 : 0);
        boolean want = !bad(p) && direction >= 0 && direction <= 3 && moments >= 0 && moments <= 50
            && column >= 0 && column <= 3 && row >= 0 && row <= 3;
        check.due(where + "hold(" + p + ", " + direction + ", " + moments + ")", x.hold(p, direction, moments), want);
    }
}
