/**
 * Three replicas of one text that are edited apart and come together again.
 *
 * THE ORDER of the elements that one replica knows is the order of all elements
 * with the others left out. So one list of all elements serves the three
 * replicas, and a replica is no more than the set of the events it knows.
 */
public final class SharedText {
    public static final int BAD = -1;
    public static final int FULL = -2;
    public static final int EARLY = -3;

    private static final int REPLICAS = 3;
    private static final int SYMBOLS = 26;
    private static final int MOST_EVENTS = 30;
    private static final int NONE = -1;

    // One entry for each replica; a set of events has bit e for event e.
    private final int[] knownBy = new int[REPLICAS];
    private final int[] clockOf = new int[REPLICAS];

    // One entry for each event; an element goes by the number of the event that put it in.
    private final int[] needs = new int[MOST_EVENTS];
    private final int[] symbol = new int[MOST_EVENTS];
    private final int[] time = new int[MOST_EVENTS];
    private final int[] maker = new int[MOST_EVENTS];
    private final int[] deletions = new int[MOST_EVENTS];
    private int made = 0;

    // All elements that any replica put in, in THE ORDER. An index is a spot in this list,
    // a place is one in the text of a replica.
    private final int[] order = new int[MOST_EVENTS];
    private int placed = 0;

    public SharedText() {
    }

    public int put(int x, int p, int s) {
        if (!isReplica(x) || s < 0 || s >= SYMBOLS || p < 0) {
            return BAD;
        }
        int parent = NONE;
        if (p > 0) {
            parent = indexAt(x, p - 1);
            if (parent == NONE) {
                return BAD;
            }
        }
        if (made >= MOST_EVENTS) {
            return FULL;
        }
        int e = makeEvent(x);
        clockOf[x]++;
        symbol[e] = s;
        time[e] = clockOf[x];
        placeBehind(parent, e);
        return e;
    }

    public int erase(int x, int p) {
        if (!isReplica(x)) {
            return BAD;
        }
        int index = indexAt(x, p);
        if (index == NONE) {
            return BAD;
        }
        if (made >= MOST_EVENTS) {
            return FULL;
        }
        int e = makeEvent(x);
        deletions[order[index]] |= 1 << e;
        return e;
    }

    public int learn(int x, int y, int e) {
        if (!isReplica(x) || !isReplica(y) || x == y) {
            return BAD;
        }
        if (e < 0 || e >= made || !knows(y, e)) {
            return BAD;
        }
        if (knows(x, e)) {
            return 0;
        }
        if ((needs[e] & ~knownBy[x]) != 0) {
            return EARLY;
        }
        take(x, e);
        return 1;
    }

    public int catchUp(int x, int y) {
        if (!isReplica(x) || !isReplica(y) || x == y) {
            return BAD;
        }
        int fresh = 0;
        // An event needs only events with lesser numbers, so none is early here.
        for (int e = 0; e < made; e++) {
            if (knows(y, e) && !knows(x, e)) {
                take(x, e);
                fresh++;
            }
        }
        return fresh;
    }

    public int events() {
        return made;
    }

    public int known(int x) {
        return isReplica(x) ? knownBy[x] : 0;
    }

    public int clock(int x) {
        return isReplica(x) ? clockOf[x] : BAD;
    }

    public int length(int x) {
        if (!isReplica(x)) {
            return BAD;
        }
        int count = 0;
        for (int i = 0; i < placed; i++) {
            if (isShown(x, order[i])) {
                count++;
            }
        }
        return count;
    }

    public int at(int x, int p) {
        if (!isReplica(x)) {
            return BAD;
        }
        int index = indexAt(x, p);
        return index == NONE ? BAD : symbol[order[index]];
    }

    public int madeBy(int x, int p) {
        if (!isReplica(x)) {
            return BAD;
        }
        int index = indexAt(x, p);
        return index == NONE ? BAD : order[index];
    }

    public int placeOf(int x, int e) {
        if (!isReplica(x)) {
            return BAD;
        }
        int place = 0;
        for (int i = 0; i < placed; i++) {
            if (isShown(x, order[i])) {
                if (order[i] == e) {
                    return place;
                }
                place++;
            }
        }
        return BAD;
    }

    public boolean same(int x, int y) {
        if (!isReplica(x) || !isReplica(y)) {
            return false;
        }
        int end = length(x);
        if (end != length(y)) {
            return false;
        }
        for (int p = 0; p < end; p++) {
            if (at(x, p) != at(y, p)) {
                return false;
            }
        }
        return true;
    }

    public int elements(int x) {
        if (!isReplica(x)) {
            return BAD;
        }
        int count = 0;
        for (int i = 0; i < placed; i++) {
            if (knows(x, order[i])) {
                count++;
            }
        }
        return count;
    }

    private boolean isReplica(int x) {
        return x >= 0 && x < REPLICAS;
    }

    private boolean knows(int x, int e) {
        return (knownBy[x] & (1 << e)) != 0;
    }

    private boolean isShown(int x, int element) {
        return knows(x, element) && (knownBy[x] & deletions[element]) == 0;
    }

    private int indexAt(int x, int p) {
        int place = 0;
        for (int i = 0; i < placed; i++) {
            if (isShown(x, order[i])) {
                if (place == p) {
                    return i;
                }
                place++;
            }
        }
        return NONE;
    }

    private int makeEvent(int x) {
        int e = made;
        made++;
        maker[e] = x;
        needs[e] = knownBy[x];
        knownBy[x] |= 1 << e;
        return e;
    }

    private void take(int x, int e) {
        knownBy[x] |= 1 << e;
        // The time of a deletion stays 0, so that it raises no clock.
        if (time[e] > clockOf[x]) {
            clockOf[x] = time[e];
        }
    }

    private void placeBehind(int parent, int e) {
        int spot = spotBehind(parent, e);
        for (int i = placed; i > spot; i--) {
            order[i] = order[i - 1];
        }
        order[spot] = e;
        placed++;
    }

    // What descends from an element has a greater stamp than it. So behind the parent
    // the greater stamps are those of the siblings that come first and of what descends
    // from them, and the first lesser stamp is where they end.
    private int spotBehind(int parent, int e) {
        int spot = parent == NONE ? 0 : parent + 1;
        while (spot < placed && hasGreaterStamp(order[spot], e)) {
            spot++;
        }
        return spot;
    }

    private boolean hasGreaterStamp(int a, int b) {
        if (time[a] != time[b]) {
            return time[a] > time[b];
        }
        return maker[a] > maker[b];
    }
}
