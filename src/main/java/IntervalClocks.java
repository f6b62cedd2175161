/** Keeps track of who can know of whom, while parties split up and come together. */
public final class IntervalClocks {
    public static final int BAD = -1;
    public static final int FULL = -2;
    public static final int SAME = 0;
    public static final int BEHIND = 1;
    public static final int AHEAD = 2;
    public static final int APART = 3;

    private static final int PARTIES = 8;
    private static final int NOTES = 8;
    private static final int HOLDERS = 16;
    private static final int CELLS = 32;
    private static final int MAX_EVENTS = 100;
    private static final int EVENTS_IN_LOW = 64;

    // Parties are holders 0 .. 7 and notes are holders 8 .. 15, as the calls write them,
    // so that whatever concerns both can go over one range. What the other arrays hold for one
    // that is not present means nothing, and is overwritten when it comes.
    private final boolean[] present = new boolean[HOLDERS];

    // What a holder knows is a set of events; 100 events do not fit into one long.
    private final long[] knownLow = new long[HOLDERS];
    private final long[] knownHigh = new long[HOLDERS];

    // No call tells cells apart, so how many a party has is all that need be kept.
    private final int[] cellCount = new int[PARTIES];

    private int eventCount = 0;

    public IntervalClocks() {
        present[0] = true;
        cellCount[0] = CELLS;
    }

    public int split(int a) {
        if (!isParty(a)) {
            return BAD;
        }
        int slot = leastFreeSlot();
        if (slot == PARTIES || cellCount[a] == 1) {
            return FULL;
        }
        int given = cellCount[a] / 2;
        cellCount[a] -= given;
        cellCount[slot] = given;
        present[slot] = true;
        copyKnowledge(a, slot);
        return slot;
    }

    public int join(int a, int b) {
        if (a == b || !isParty(a) || !isParty(b)) {
            return BAD;
        }
        learn(b, a);
        cellCount[a] += cellCount[b];
        present[b] = false;
        return cellCount[a];
    }

    public int event(int a) {
        if (!isParty(a)) {
            return BAD;
        }
        if (eventCount >= MAX_EVENTS) {
            return FULL;
        }
        if (eventCount < EVENTS_IN_LOW) {
            knownLow[a] |= 1L << eventCount;
        } else {
            knownHigh[a] |= 1L << (eventCount - EVENTS_IN_LOW);
        }
        eventCount++;
        return eventCount;
    }

    public int tell(int x, int b) {
        if (x == b || !isThere(x) || !isParty(b)) {
            return BAD;
        }
        if (isBehind(x, b)) {
            return 0;
        }
        learn(x, b);
        return 1;
    }

    public boolean note(int a, int n) {
        if (!isParty(a) || !isNoteNumber(n)) {
            return false;
        }
        present[PARTIES + n] = true;
        copyKnowledge(a, PARTIES + n);
        return true;
    }

    public boolean erase(int n) {
        if (!isWritten(n)) {
            return false;
        }
        present[PARTIES + n] = false;
        return true;
    }

    public int parties() {
        return presentBits(0, PARTIES);
    }

    public int notes() {
        return presentBits(PARTIES, NOTES);
    }

    public int events() {
        return eventCount;
    }

    public int cells(int a) {
        return isParty(a) ? cellCount[a] : BAD;
    }

    public int compare(int x, int y) {
        if (!isThere(x) || !isThere(y)) {
            return BAD;
        }
        return standing(x, y);
    }

    public int behind(int x) {
        if (!isThere(x)) {
            return 0;
        }
        int bits = 0;
        for (int y = 0; y < HOLDERS; y++) {
            if (present[y] && isBehind(y, x)) {
                bits |= 1 << y;
            }
        }
        return bits;
    }

    public int newest() {
        int bits = 0;
        for (int x = 0; x < HOLDERS; x++) {
            if (present[x] && !isOutdated(x)) {
                bits |= 1 << x;
            }
        }
        return bits;
    }

    public boolean everywhere(int n) {
        if (!isWritten(n)) {
            return false;
        }
        for (int a = 0; a < PARTIES; a++) {
            if (present[a] && !isBehind(PARTIES + n, a)) {
                return false;
            }
        }
        return true;
    }

    public int apartPairs() {
        int pairs = 0;
        for (int y = 1; y < HOLDERS; y++) {
            for (int x = 0; x < y; x++) {
                if (present[x] && present[y] && standing(x, y) == APART) {
                    pairs++;
                }
            }
        }
        return pairs;
    }

    private boolean isParty(int a) {
        return a >= 0 && a < PARTIES && present[a];
    }

    private boolean isNoteNumber(int n) {
        return n >= 0 && n < NOTES;
    }

    // A note written by a party that knew nothing counts as written: it can be compared and erased.
    private boolean isWritten(int n) {
        return isNoteNumber(n) && present[PARTIES + n];
    }

    private boolean isThere(int x) {
        return x >= 0 && x < HOLDERS && present[x];
    }

    private int leastFreeSlot() {
        for (int a = 0; a < PARTIES; a++) {
            if (!present[a]) {
                return a;
            }
        }
        return PARTIES;
    }

    private int presentBits(int first, int count) {
        int bits = 0;
        for (int i = 0; i < count; i++) {
            if (present[first + i]) {
                bits |= 1 << i;
            }
        }
        return bits;
    }

    private void copyKnowledge(int from, int to) {
        knownLow[to] = knownLow[from];
        knownHigh[to] = knownHigh[from];
    }

    private void learn(int from, int to) {
        knownLow[to] |= knownLow[from];
        knownHigh[to] |= knownHigh[from];
    }

    private boolean isBehind(int x, int y) {
        return (knownLow[x] & ~knownLow[y]) == 0L && (knownHigh[x] & ~knownHigh[y]) == 0L;
    }

    private int standing(int x, int y) {
        boolean xBehind = isBehind(x, y);
        boolean yBehind = isBehind(y, x);
        if (xBehind && yBehind) {
            return SAME;
        }
        if (xBehind) {
            return BEHIND;
        }
        return yBehind ? AHEAD : APART;
    }

    private boolean isOutdated(int x) {
        for (int y = 0; y < HOLDERS; y++) {
            if (present[y] && standing(x, y) == BEHIND) {
                return true;
            }
        }
        return false;
    }
}
