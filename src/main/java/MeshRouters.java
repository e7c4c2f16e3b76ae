/**
 * Sixteen places in a square that send each other messages, piece by piece,
 * along the lines between neighbours.
 *
 * No answer depends on the ways the pieces take or on lines that were held up,
 * so neither is kept: a message counts its crossings when it arrives.
 */
public final class MeshRouters {
    public static final int BAD = -1;
    public static final int FULL = -2;

    private static final int SIDE = 4;
    private static final int PLACES = 16;
    private static final int MANNERS = 3;
    private static final int MOST_MOMENTS = 50;
    private static final int MOST_WORDS = 5;
    private static final int MOST_MESSAGES = 20;
    private static final int ALL_WORDS = 100;
    private static final int NONE = -1;

    private final int[] draftWords = new int[MOST_WORDS];
    private int draftLength;

    // The messages stand in the order in which they were sent, without gaps,
    // so that "the first of those" is the first one found.
    private final int[] sourceOf = new int[MOST_MESSAGES];
    private final int[] goalOf = new int[MOST_MESSAGES];
    private final int[] lengthOf = new int[MOST_MESSAGES];
    private final boolean[] isThere = new boolean[MOST_MESSAGES];
    private final int[] wordsOf = new int[ALL_WORDS];
    private int count;

    private int crossed;

    public MeshRouters() {
        draftLength = 0;
        count = 0;
        crossed = 0;
    }

    public int write(int v) {
        if (draftLength >= MOST_WORDS) {
            return FULL;
        }
        draftWords[draftLength] = v;
        draftLength++;
        return draftLength;
    }

    public int wipe() {
        int length = draftLength;
        draftLength = 0;
        return length;
    }

    public int draft() {
        return draftLength;
    }

    public int send(int source, int goal, int how) {
        if (!isPlace(source) || !isPlace(goal) || how < 0 || how >= MANNERS || draftLength == 0) {
            return BAD;
        }
        if (count >= MOST_MESSAGES) {
            return FULL;
        }
        sourceOf[count] = source;
        goalOf[count] = goal;
        lengthOf[count] = draftLength;
        isThere[count] = false;
        for (int k = 0; k < draftLength; k++) {
            wordsOf[count * MOST_WORDS + k] = draftWords[k];
        }
        count++;
        draftLength = 0;
        return count;
    }

    public boolean hold(int p, int direction, int moments) {
        return isPlace(p) && moments >= 0 && moments <= MOST_MOMENTS && hasLine(p, direction);
    }

    public int settle() {
        int arrivals = 0;
        for (int m = 0; m < count; m++) {
            if (!isThere[m]) {
                isThere[m] = true;
                crossed += (lengthOf[m] + 1) * linesBetween(sourceOf[m], goalOf[m]);
                arrivals++;
            }
        }
        return arrivals;
    }

    public int waiting(int source) {
        if (!isPlace(source)) {
            return BAD;
        }
        int found = 0;
        for (int m = 0; m < count; m++) {
            if (!isThere[m] && sourceOf[m] == source) {
                found++;
            }
        }
        return found;
    }

    public int arrived(int goal, int source) {
        if (!isPlace(goal) || !isPlace(source)) {
            return BAD;
        }
        int found = 0;
        for (int m = 0; m < count; m++) {
            if (hasArrived(m, goal, source)) {
                found++;
            }
        }
        return found;
    }

    public int words(int goal, int source, int i) {
        int m = find(goal, source, i);
        return m == NONE ? BAD : lengthOf[m];
    }

    public int word(int both, int i, int k) {
        if (both < 0 || both >= PLACES * PLACES) {
            return 0;
        }
        int m = find(both % PLACES, both / PLACES, i);
        if (m == NONE || k < 0 || k >= lengthOf[m]) {
            return 0;
        }
        return wordsOf[m * MOST_WORDS + k];
    }

    public int take(int goal, int source) {
        int m = find(goal, source, 0);
        if (m == NONE) {
            return BAD;
        }
        int length = lengthOf[m];
        remove(m);
        return length;
    }

    public int crossings() {
        return crossed;
    }

    public int messages() {
        return count;
    }

    public int distance(int a, int b) {
        if (!isPlace(a) || !isPlace(b)) {
            return BAD;
        }
        return linesBetween(a, b);
    }

    public int held(int goal) {
        if (!isPlace(goal)) {
            return BAD;
        }
        int found = 0;
        for (int m = 0; m < count; m++) {
            if (isThere[m] && goalOf[m] == goal) {
                found++;
            }
        }
        return found;
    }

    public int sum(int goal) {
        int total = 0;
        for (int m = 0; m < count; m++) {
            if (isThere[m] && goalOf[m] == goal) {
                total += sumOfWords(m);
            }
        }
        return total;
    }

    private static boolean isPlace(int p) {
        return p >= 0 && p < PLACES;
    }

    private static boolean hasLine(int p, int direction) {
        int column = p % SIDE;
        int row = p / SIDE;
        switch (direction) {
            case 0:
                return row > 0;
            case 1:
                return column < SIDE - 1;
            case 2:
                return row < SIDE - 1;
            case 3:
                return column > 0;
            default:
                return false;
        }
    }

    private static int linesBetween(int a, int b) {
        int columns = a % SIDE - b % SIDE;
        int rows = a / SIDE - b / SIDE;
        return (columns < 0 ? -columns : columns) + (rows < 0 ? -rows : rows);
    }

    private boolean hasArrived(int m, int goal, int source) {
        return isThere[m] && goalOf[m] == goal && sourceOf[m] == source;
    }

    // No message has a source or goal outside the square, so a wrong place
    // needs no test of its own here: nothing is found for it.
    private int find(int goal, int source, int i) {
        int before = 0;
        for (int m = 0; m < count; m++) {
            if (hasArrived(m, goal, source)) {
                if (before == i) {
                    return m;
                }
                before++;
            }
        }
        return NONE;
    }

    private int sumOfWords(int m) {
        int total = 0;
        for (int k = 0; k < lengthOf[m]; k++) {
            total += wordsOf[m * MOST_WORDS + k];
        }
        return total;
    }

    private void remove(int gone) {
        count--;
        for (int m = gone; m < count; m++) {
            copyDown(m + 1, m);
        }
    }

    private void copyDown(int from, int to) {
        sourceOf[to] = sourceOf[from];
        goalOf[to] = goalOf[from];
        lengthOf[to] = lengthOf[from];
        isThere[to] = isThere[from];
        for (int k = 0; k < MOST_WORDS; k++) {
            wordsOf[to * MOST_WORDS + k] = wordsOf[from * MOST_WORDS + k];
        }
    }
}
