import java.util.ArrayList;
import java.util.List;
import java.util.function.ToIntFunction;

/** Promise 18: each kind of refused call, in states of many kinds, beside an object without that call. */
public final class RefusalTest {
    private static final int STATES = 5;
    // All messages of these states are between these places, so that a few calls show them all.
    private static final int[] USED = {0, 3, 12, 15};

    /** A boolean counts 1 or 0. */
    private record Refused(String name, int want, ToIntFunction<MeshRouters> call) {
    }

    public static void main(String[] args) {
        Check check = new Check();
        check.sentence("18: a call that is refused changes nothing");
        for (int state = 0; state < STATES; state++) {
            String untouched = tell(make(state));
            for (Refused refused : refusedIn(state)) {
                changesNothing(check, state, refused, untouched);
            }
        }
        check.sentence("A question changes nothing");
        for (int state = 0; state < STATES; state++) {
            MeshRouters x = make(state);
            Mesh.look(x);
            tellMessages(x, new StringBuilder());
            check.same("state " + state + " after questions", tellBriefly(x), tellBriefly(make(state)));
        }
        check.end();
    }

    private static void changesNothing(Check check, int state, Refused refused, String untouched) {
        MeshRouters x = make(state);
        String name = refused.name + " in state " + state;
        for (int time = 0; time < 3; time++) {
            check.due(name, refused.call.applyAsInt(x), refused.want);
        }
        check.same("after " + name, tell(x), untouched);
    }

    private static MeshRouters make(int state) {
        MeshRouters x = new MeshRouters();
        switch (state) {
            case 0 -> { }
            case 1 -> {
                fill(x, 0, 3);
                x.settle();
                fill(x, 3, 5);
                draft(x, 5);
            }
            case 2 -> {
                fill(x, 0, 20);
                draft(x, 2);
            }
            case 3 -> {
                fill(x, 0, 20);
                x.settle();
            }
            default -> {
                fill(x, 0, 12);
                x.settle();
                fill(x, 12, 20);
                draft(x, 5);
            }
        }
        return x;
    }

    private static void fill(MeshRouters x, int from, int to) {
        for (int m = from; m < to; m++) {
            int[] words = m % 2 == 0 ? new int[] {100 + m} : new int[] {200 + m, 300 + m};
            Mesh.send(x, USED[m % 4], USED[m / 4 % 4], words);
        }
    }

    private static void draft(MeshRouters x, int length) {
        for (int k = 0; k < length; k++) {
            x.write(70 + k);
        }
    }

    private static List<Refused> refusedIn(int state) {
        List<Refused> all = new ArrayList<>();
        for (int p : Mesh.NOT_PLACES) {
            addWrongPlace(all, p);
        }
        addWrongNumbers(all);
        if (state == 0 || state == 3) {
            all.add(new Refused("send of an empty draft", MeshRouters.BAD, x -> x.send(0, 3, 0)));
        }
        if (state == 1 || state == 4) {
            all.add(new Refused("write to a full draft", MeshRouters.FULL, x -> x.write(99)));
        }
        if (state == 2 || state == 4) {
            all.add(new Refused("send beside twenty", MeshRouters.FULL, x -> x.send(0, 3, 0)));
        }
        if (state == 2) {
            all.add(new Refused("take of one that waits", MeshRouters.BAD, x -> x.take(0, 0)));
        }
        return all;
    }

    private static void addWrongPlace(List<Refused> all, int p) {
        int bad = MeshRouters.BAD;
        all.add(new Refused("send(" + p + ", 0, 0)", bad, x -> x.send(p, 0, 0)));
        all.add(new Refused("send(0, " + p + ", 0)", bad, x -> x.send(0, p, 0)));
        all.add(new Refused("hold(" + p + ", 1, 1)", 0, x -> x.hold(p, 1, 1) ? 1 : 0));
        all.add(new Refused("waiting(" + p + ")", bad, x -> x.waiting(p)));
        all.add(new Refused("arrived(" + p + ", 0)", bad, x -> x.arrived(p, 0)));
        all.add(new Refused("arrived(0, " + p + ")", bad, x -> x.arrived(0, p)));
        all.add(new Refused("words(" + p + ", 0, 0)", bad, x -> x.words(p, 0, 0)));
        all.add(new Refused("words(0, " + p + ", 0)", bad, x -> x.words(0, p, 0)));
        all.add(new Refused("take(" + p + ", 0)", bad, x -> x.take(p, 0)));
        all.add(new Refused("take(0, " + p + ")", bad, x -> x.take(0, p)));
        all.add(new Refused("distance(" + p + ", 0)", bad, x -> x.distance(p, 0)));
        all.add(new Refused("distance(0, " + p + ")", bad, x -> x.distance(0, p)));
        all.add(new Refused("held(" + p + ")", bad, x -> x.held(p)));
    }

    private static void addWrongNumbers(List<Refused> all) {
        int bad = MeshRouters.BAD;
        all.add(new Refused("send(0, 3, -1)", bad, x -> x.send(0, 3, -1)));
        all.add(new Refused("send(0, 3, 3)", bad, x -> x.send(0, 3, 3)));
        all.add(new Refused("hold(0, 0, 1)", 0, x -> x.hold(0, 0, 1) ? 1 : 0));
        all.add(new Refused("hold(0, -1, 1)", 0, x -> x.hold(0, -1, 1) ? 1 : 0));
        all.add(new Refused("hold(0, 4, 1)", 0, x -> x.hold(0, 4, 1) ? 1 : 0));
        all.add(new Refused("hold(0, 1, -1)", 0, x -> x.hold(0, 1, -1) ? 1 : 0));
        all.add(new Refused("hold(0, 1, 51)", 0, x -> x.hold(0, 1, 51) ? 1 : 0));
        all.add(new Refused("words(0, 0, -1)", bad, x -> x.words(0, 0, -1)));
        all.add(new Refused("words(0, 0, 20)", bad, x -> x.words(0, 0, 20)));
        all.add(new Refused("take(7, 9)", bad, x -> x.take(7, 9)));
    }

    /** All that an object can show, the words of its draft and of what waits in it among them. */
    private static String tell(MeshRouters x) {
        StringBuilder seen = new StringBuilder(Mesh.look(x));
        tellMessages(x, seen);
        return seen.append(tellBriefly(x)).toString();
    }

    private static String tellBriefly(MeshRouters x) {
        StringBuilder seen = new StringBuilder();
        seen.append(" settle ").append(x.settle());
        if (x.messages() == 20) {
            seen.append(" take ").append(x.take(0, 0));
        }
        // No message of these states is from 9 to 9, so the draft can be told from them.
        seen.append(" send ").append(x.send(9, 9, 0)).append(" settle ").append(x.settle()).append(" draft");
        for (int k = 0; k < 5; k++) {
            seen.append(' ').append(x.word(Mesh.both(9, 9), 0, k));
        }
        seen.append(' ').append(Mesh.look(x));
        tellMessages(x, seen);
        return seen.toString();
    }

    private static void tellMessages(MeshRouters x, StringBuilder seen) {
        for (int goal : USED) {
            for (int source : USED) {
                int there = x.arrived(goal, source);
                for (int i = 0; i < there; i++) {
                    tellWords(x, goal, source, i, seen.append(' ').append(goal).append('<').append(source));
                }
            }
        }
    }

    private static void tellWords(MeshRouters x, int goal, int source, int i, StringBuilder seen) {
        int length = x.words(goal, source, i);
        for (int k = 0; k < length; k++) {
            seen.append(':').append(x.word(Mesh.both(goal, source), i, k));
        }
    }
}
