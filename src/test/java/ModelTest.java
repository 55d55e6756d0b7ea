import java.util.ArrayList;
import java.util.List;
import java.util.Random;
import java.util.Set;
import java.util.TreeSet;

/**
 * Runs of calls, the same in every run of the test, against a model that follows the
 * document's words: it keeps the parents, and walks the tree anew for every question.
 */
public final class ModelTest {
    private static final int RUNS = 3000;
    private static final int CALLS = 512;
    private static final int MOST_SHOWN = 20;

    private static final class Event {
        int number;
        int replica;
        Set<Integer> before;
        boolean isPut;
        int symbol;
        int time;
        Event parent;
        Event deleted;
    }

    private static final class Model {
        final List<Event> events = new ArrayList<>();
        final List<Set<Integer>> known = List.of(new TreeSet<>(), new TreeSet<>(), new TreeSet<>());
        final int[] clocks = new int[3];

        boolean noReplica(int x) {
            return x < 0 || x > 2;
        }

        void walk(int x, Event parent, List<Event> into) {
            List<Event> children = new ArrayList<>();
            for (int e : known.get(x)) {
                Event event = events.get(e);
                if (event.isPut && event.parent == parent) {
                    children.add(event);
                }
            }
            children.sort((a, b) -> a.time != b.time ? b.time - a.time : b.replica - a.replica);
            for (Event child : children) {
                into.add(child);
                walk(x, child, into);
            }
        }

        List<Event> text(int x) {
            List<Event> text = new ArrayList<>();
            walk(x, null, text);
            for (int e : known.get(x)) {
                text.remove(events.get(e).deleted);
            }
            return text;
        }

        Event make(int x) {
            Event event = new Event();
            event.number = events.size();
            event.replica = x;
            event.before = new TreeSet<>(known.get(x));
            events.add(event);
            known.get(x).add(event.number);
            return event;
        }

        int put(int x, int p, int s) {
            if (noReplica(x) || s < 0 || s > 25 || p < 0 || p > text(x).size()) {
                return -1;
            }
            if (events.size() == 30) {
                return -2;
            }
            Event parent = p == 0 ? null : text(x).get(p - 1);
            Event event = make(x);
            event.isPut = true;
            event.symbol = s;
            event.time = ++clocks[x];
            event.parent = parent;
            return event.number;
        }

        int erase(int x, int p) {
            if (madeBy(x, p) == -1) {
                return -1;
            }
            if (events.size() == 30) {
                return -2;
            }
            Event deleted = text(x).get(p);
            Event event = make(x);
            event.deleted = deleted;
            return event.number;
        }

        int learn(int x, int y, int e) {
            if (noReplica(x) || noReplica(y) || x == y || !known.get(y).contains(e)) {
                return -1;
            }
            if (known.get(x).contains(e)) {
                return 0;
            }
            Event event = events.get(e);
            if (!known.get(x).containsAll(event.before)) {
                return -3;
            }
            known.get(x).add(e);
            if (event.isPut) {
                clocks[x] = Math.max(clocks[x], event.time);
            }
            return 1;
        }

        // Goes round by learn until nothing is early, so it leans on no order of the numbers.
        int catchUp(int x, int y) {
            if (noReplica(x) || noReplica(y) || x == y) {
                return -1;
            }
            int before = known.get(x).size();
            while (!known.get(x).containsAll(known.get(y))) {
                for (int e : known.get(y)) {
                    learn(x, y, e);
                }
            }
            return known.get(x).size() - before;
        }

        int known(int x) {
            int bits = 0;
            if (!noReplica(x)) {
                for (int e : known.get(x)) {
                    bits += 1 << e;
                }
            }
            return bits;
        }

        int clock(int x) {
            return noReplica(x) ? -1 : clocks[x];
        }

        int length(int x) {
            return noReplica(x) ? -1 : text(x).size();
        }

        int madeBy(int x, int p) {
            if (noReplica(x) || p < 0 || p >= text(x).size()) {
                return -1;
            }
            return text(x).get(p).number;
        }

        int at(int x, int p) {
            int e = madeBy(x, p);
            return e == -1 ? -1 : events.get(e).symbol;
        }

        int placeOf(int x, int e) {
            if (noReplica(x) || e < 0 || e >= events.size()) {
                return -1;
            }
            return text(x).indexOf(events.get(e));
        }

        int same(int x, int y) {
            if (noReplica(x) || noReplica(y)) {
                return 0;
            }
            return symbols(x).equals(symbols(y)) ? 1 : 0;
        }

        List<Integer> symbols(int x) {
            List<Integer> symbols = new ArrayList<>();
            for (Event event : text(x)) {
                symbols.add(event.symbol);
            }
            return symbols;
        }

        int elements(int x) {
            if (noReplica(x)) {
                return -1;
            }
            List<Event> all = new ArrayList<>();
            walk(x, null, all);
            return all.size();
        }
    }

    private static int wrong = 0;

    private static void due(int run, String call, int got, int want) {
        if (got != want) {
            wrong++;
            if (wrong <= MOST_SHOWN) {
                System.out.println("run " + run + ": " + call + " answered " + got + ", due is " + want);
            }
        }
    }

    /** Mostly 0 .. most, now and then just outside, seldom far outside. */
    private static int pick(Random random, int most) {
        int kind = random.nextInt(60);
        if (kind == 0) {
            return -1;
        }
        if (kind == 1) {
            return most + 1;
        }
        if (kind == 2) {
            return random.nextInt();
        }
        return random.nextInt(most + 1);
    }

    private static void change(int run, Random random, SharedText t, Model m, int symbols, int shareOdds) {
        int x = pick(random, 2);
        int y = pick(random, 2);
        int end = m.noReplica(x) ? 0 : m.length(x);
        int p = pick(random, end);
        int kind = random.nextInt(10 + shareOdds);
        if (kind < 7) {
            int s = pick(random, symbols);
            due(run, "put(" + x + ", " + p + ", " + s + ")", t.put(x, p, s), m.put(x, p, s));
        } else if (kind < 10) {
            due(run, "erase(" + x + ", " + p + ")", t.erase(x, p), m.erase(x, p));
        } else if (random.nextInt(6) == 0) {
            due(run, "catchUp(" + x + ", " + y + ")", t.catchUp(x, y), m.catchUp(x, y));
        } else {
            int e = pick(random, m.events.size());
            due(run, "learn(" + x + ", " + y + ", " + e + ")", t.learn(x, y, e), m.learn(x, y, e));
        }
    }

    private static void ask(int run, Random random, SharedText t, Model m) {
        int x = pick(random, 2);
        int y = pick(random, 2);
        int p = pick(random, m.noReplica(x) ? 0 : m.length(x));
        int e = pick(random, m.events.size());
        switch (random.nextInt(9)) {
            case 0 -> due(run, "events()", t.events(), m.events.size());
            case 1 -> due(run, "known(" + x + ")", t.known(x), m.known(x));
            case 2 -> due(run, "clock(" + x + ")", t.clock(x), m.clock(x));
            case 3 -> due(run, "length(" + x + ")", t.length(x), m.length(x));
            case 4 -> due(run, "at(" + x + ", " + p + ")", t.at(x, p), m.at(x, p));
            case 5 -> due(run, "madeBy(" + x + ", " + p + ")", t.madeBy(x, p), m.madeBy(x, p));
            case 6 -> due(run, "placeOf(" + x + ", " + e + ")", t.placeOf(x, e), m.placeOf(x, e));
            case 7 -> due(run, "same(" + x + ", " + y + ")", t.same(x, y) ? 1 : 0, m.same(x, y));
            default -> due(run, "elements(" + x + ")", t.elements(x), m.elements(x));
        }
    }

    private static void lookAtAll(int run, SharedText t, Model m) {
        for (int x = 0; x < 3; x++) {
            due(run, "known(" + x + ")", t.known(x), m.known(x));
            due(run, "clock(" + x + ")", t.clock(x), m.clock(x));
            due(run, "length(" + x + ")", t.length(x), m.length(x));
            for (int p = 0; p < m.length(x); p++) {
                due(run, "madeBy(" + x + ", " + p + ")", t.madeBy(x, p), m.madeBy(x, p));
            }
        }
    }

    private static void comeTogether(int run, SharedText t, Model m) {
        int[][] pairs = {{0, 1}, {0, 2}, {1, 0}, {2, 0}};
        for (int[] pair : pairs) {
            due(run, "catchUp at the end", t.catchUp(pair[0], pair[1]), m.catchUp(pair[0], pair[1]));
        }
        due(run, "same(0, 1) at the end", t.same(0, 1) ? 1 : 0, 1);
        due(run, "same(1, 2) at the end", t.same(1, 2) ? 1 : 0, 1);
    }

    private static void oneRun(int run) {
        Random random = new Random(run);
        SharedText t = new SharedText();
        Model m = new Model();
        // Few symbols make texts of other elements alike; few shares keep the replicas long apart.
        int symbols = run % 3 == 0 ? 1 : 25;
        int shareOdds = 2 + 10 * (run % 4);
        // The end of a run takes 6 calls and twice lookAtAll, which takes at most 3 * (3 + 30).
        int calls = 6 + 2 * 99;
        while (calls < CALLS) {
            if (random.nextInt(3) == 0) {
                ask(run, random, t, m);
            } else {
                change(run, random, t, m, symbols, shareOdds);
            }
            calls++;
        }
        lookAtAll(run, t, m);
        comeTogether(run, t, m);
        lookAtAll(run, t, m);
    }

    public static void main(String[] args) {
        for (int run = 0; run < RUNS; run++) {
            oneRun(run);
        }
        System.out.println(wrong == 0 ? "all answers are as due" : wrong + " answers are not as due");
        if (wrong != 0) {
            System.exit(1);
        }
    }
}
