import java.util.HashSet;
import java.util.Map;
import java.util.Random;
import java.util.Set;
import java.util.TreeMap;
import java.util.TreeSet;

/**
 * Long mixed runs of calls, each answer held against a second telling of the document that keeps
 * real sets of events and real cells. The seeds are fixed, so every run is the same each time.
 */
public final class ModelTest {
    private static final int RUNS = 3000;
    private static final int CALLS = 512;
    private static final String[] NAMES = {
        "split", "join", "event", "tell", "note", "erase", "parties", "notes", "events", "cells",
        "compare", "behind", "newest", "everywhere", "apartPairs"
    };
    private static final int SPLIT = 0;
    private static final int EVENT = 2;
    private static final int TELL = 3;

    /** Without these the runs would not be worth much. */
    private static final String[] MUST_BE_SEEN = {
        "split -2", "split -1", "split 7", "join -1", "join 32", "event -2", "event -1", "event 1", "event 64",
        "event 65", "event 100", "tell -1", "tell 0", "tell 1", "note 0", "note 1", "erase 0", "erase 1",
        "parties 255", "notes 0", "notes 255", "events 0", "events 100", "cells -1", "cells 1", "cells 32",
        "compare -1", "compare 0", "compare 1", "compare 2", "compare 3", "behind 0", "newest 1",
        "everywhere 0", "everywhere 1", "apartPairs 0", "apartPairs 20"
    };

    /** What parties (0 .. 7) and notes (8 .. 15) that are there know. */
    private final Map<Integer, Set<Integer>> known = new TreeMap<>();
    private final Map<Integer, TreeSet<Integer>> cells = new TreeMap<>();
    private int happened = 0;

    private ModelTest() {
        known.put(0, new HashSet<>());
        cells.put(0, new TreeSet<>());
        for (int cell = 0; cell < 32; cell++) {
            cells.get(0).add(cell);
        }
    }

    public static void main(String[] args) {
        int wrong = 0;
        Set<String> seen = new HashSet<>();
        for (int run = 0; run < RUNS && wrong < 20; run++) {
            wrong += wrongAnswers(run, seen);
        }
        for (String answer : MUST_BE_SEEN) {
            if (wrong == 0 && !seen.contains(answer)) {
                wrong++;
                System.out.println("no run was due to answer " + answer);
            }
        }
        System.out.println(wrong == 0 ? "all answers are as due" : wrong + " answers are not as due");
        if (wrong != 0) {
            System.exit(1);
        }
    }

    private static int wrongAnswers(int run, Set<String> seen) {
        Random random = new Random(run);
        IntervalClocks clocks = new IntervalClocks();
        ModelTest model = new ModelTest();
        int[] weights = weights(random);
        for (int call = 0; call < CALLS; call++) {
            int method = choice(weights, random);
            int p = argument(random);
            int q = argument(random);
            int want = model.due(method, p, q);
            int got = answer(clocks, method, p, q);
            seen.add(NAMES[method] + " " + want);
            if (got != want) {
                System.out.println("run " + run + ", call " + call + ": " + NAMES[method]
                    + " with " + p + ", " + q + " answered " + got + ", due is " + want);
                return 1;
            }
            model.check();
        }
        return 0;
    }

    /** Runs differ in how often each method is called, so that some fill up and others stay small. */
    private static int[] weights(Random random) {
        int[] weights = new int[NAMES.length];
        for (int method = 0; method < weights.length; method++) {
            weights[method] = 1 + random.nextInt(4);
        }
        weights[SPLIT] += random.nextInt(8);
        weights[EVENT] += random.nextInt(40);
        weights[TELL] += random.nextInt(8);
        return weights;
    }

    private static int choice(int[] weights, Random random) {
        int sum = 0;
        for (int weight : weights) {
            sum += weight;
        }
        int rest = random.nextInt(sum);
        int method = 0;
        while (rest >= weights[method]) {
            rest -= weights[method];
            method++;
        }
        return method;
    }

    private static int argument(Random random) {
        int kind = random.nextInt(20);
        if (kind == 0) {
            return random.nextInt();
        }
        if (kind == 1) {
            return random.nextInt(41) - 20;
        }
        return kind < 14 ? random.nextInt(8) : random.nextInt(16);
    }

    private static int answer(IntervalClocks c, int method, int p, int q) {
        switch (method) {
            case 0: return c.split(p);
            case 1: return c.join(p, q);
            case 2: return c.event(p);
            case 3: return c.tell(p, q);
            case 4: return c.note(p, q) ? 1 : 0;
            case 5: return c.erase(p) ? 1 : 0;
            case 6: return c.parties();
            case 7: return c.notes();
            case 8: return c.events();
            case 9: return c.cells(p);
            case 10: return c.compare(p, q);
            case 11: return c.behind(p);
            case 12: return c.newest();
            case 13: return c.everywhere(p) ? 1 : 0;
            default: return c.apartPairs();
        }
    }

    private int due(int method, int p, int q) {
        switch (method) {
            case 0: return split(p);
            case 1: return join(p, q);
            case 2: return event(p);
            case 3: return tell(p, q);
            case 4: return note(p, q);
            case 5: return erase(p);
            case 6: return bits(cells.keySet());
            case 7: return bits(known.keySet()) >> 8;
            case 8: return happened;
            case 9: return cells.containsKey(p) ? cells.get(p).size() : -1;
            case 10: return compare(p, q);
            case 11: return behind(p);
            case 12: return newest();
            case 13: return everywhere(p);
            default: return apartPairs();
        }
    }

    /** What "Terms" says of cells: no two parties share one, and all are had by somebody. */
    private void check() {
        Set<Integer> all = new HashSet<>();
        int count = 0;
        for (Set<Integer> some : cells.values()) {
            all.addAll(some);
            count += some.size();
        }
        if (count != 32 || all.size() != 32) {
            throw new IllegalStateException("the model has lost cells");
        }
    }

    private static int bits(Set<Integer> members) {
        int bits = 0;
        for (int member : members) {
            bits |= 1 << member;
        }
        return bits;
    }

    private boolean isBehind(int x, int y) {
        return known.get(y).containsAll(known.get(x));
    }

    private int split(int a) {
        if (!cells.containsKey(a)) {
            return -1;
        }
        int n = cells.get(a).size();
        if (cells.size() == 8 || n == 1) {
            return -2;
        }
        int slot = 0;
        while (cells.containsKey(slot)) {
            slot++;
        }
        TreeSet<Integer> given = new TreeSet<>();
        for (int i = 0; i < n / 2; i++) {
            given.add(cells.get(a).pollLast());
        }
        cells.put(slot, given);
        known.put(slot, new HashSet<>(known.get(a)));
        return slot;
    }

    private int join(int a, int b) {
        if (a == b || !cells.containsKey(a) || !cells.containsKey(b)) {
            return -1;
        }
        known.get(a).addAll(known.remove(b));
        cells.get(a).addAll(cells.remove(b));
        return cells.get(a).size();
    }

    private int event(int a) {
        if (!cells.containsKey(a)) {
            return -1;
        }
        if (happened == 100) {
            return -2;
        }
        happened++;
        known.get(a).add(happened);
        return happened;
    }

    private int tell(int x, int b) {
        if (x == b || !known.containsKey(x) || !cells.containsKey(b)) {
            return -1;
        }
        return known.get(b).addAll(known.get(x)) ? 1 : 0;
    }

    private int note(int a, int n) {
        if (!cells.containsKey(a) || n < 0 || n > 7) {
            return 0;
        }
        known.put(8 + n, new HashSet<>(known.get(a)));
        return 1;
    }

    private int erase(int n) {
        return n >= 0 && n <= 7 && known.remove(8 + n) != null ? 1 : 0;
    }

    private int compare(int x, int y) {
        if (!known.containsKey(x) || !known.containsKey(y)) {
            return -1;
        }
        int xBehind = isBehind(x, y) ? 0 : 2;
        int yBehind = isBehind(y, x) ? 0 : 1;
        return xBehind + yBehind;
    }

    private int behind(int x) {
        Set<Integer> found = new HashSet<>();
        if (known.containsKey(x)) {
            for (int y : known.keySet()) {
                if (isBehind(y, x)) {
                    found.add(y);
                }
            }
        }
        return bits(found);
    }

    private int newest() {
        Set<Integer> found = new HashSet<>(known.keySet());
        for (int x : known.keySet()) {
            for (int y : known.keySet()) {
                if (isBehind(x, y) && !isBehind(y, x)) {
                    found.remove(x);
                }
            }
        }
        return bits(found);
    }

    private int everywhere(int n) {
        if (n < 0 || n > 7 || !known.containsKey(8 + n)) {
            return 0;
        }
        for (int a : cells.keySet()) {
            if (!isBehind(8 + n, a)) {
                return 0;
            }
        }
        return 1;
    }

    private int apartPairs() {
        int pairs = 0;
        for (int x : known.keySet()) {
            for (int y : known.keySet()) {
                if (x < y && compare(x, y) == 3) {
                    pairs++;
                }
            }
        }
        return pairs;
    }
}
