/** Each promise of the document by hand: ordinary inputs, the edges it names, and wrong inputs. */
public final class PromisesTest {
    private static final int BAD = -1;
    private static final int FULL = -2;
    private static final int EARLY = -3;
    private static final int LOW = Integer.MIN_VALUE;
    private static final int HIGH = Integer.MAX_VALUE;
    private static final int[] NOT_REPLICAS = {-1, 3, 4, 30, LOW, HIGH};

    private static int wrong = 0;

    private static void due(String call, long got, long want) {
        if (got != want) {
            wrong++;
            System.out.println(call + " answered " + got + ", due is " + want);
        }
    }

    private static void due(String call, boolean got, boolean want) {
        due(call, got ? 1 : 0, want ? 1 : 0);
    }

    /** The text of replica x by at, with letters for symbols. */
    private static String text(SharedText t, int x) {
        StringBuilder text = new StringBuilder();
        for (int p = 0; p < t.length(x); p++) {
            text.append((char) ('a' + t.at(x, p)));
        }
        return text.toString();
    }

    private static void dueText(String where, SharedText t, int x, String want) {
        String got = text(t, x);
        if (!got.equals(want)) {
            wrong++;
            System.out.println(where + ": the text of " + x + " is '" + got + "', due is '" + want + "'");
        }
    }

    /** Puts the letters of a word in one after the other, from place p of replica x on. */
    private static void type(SharedText t, int x, int p, String word) {
        for (int i = 0; i < word.length(); i++) {
            int want = t.events();
            due("type " + word, t.put(x, p + i, word.charAt(i) - 'a'), want);
        }
    }

    public static void main(String[] args) {
        constants();
        newObject();
        objectsAreApart();
        putOrdinary();
        putWrong();
        putNextToDeleted();
        orderOfSiblings();
        orderBySameTimes();
        orderWithDescendants();
        orderTimeBeforeReplica();
        orderLateArrival();
        eraseOrdinary();
        eraseWrong();
        eraseTwiceApart();
        learnOrdinary();
        learnWrong();
        learnEarly();
        learnThroughThird();
        learnDeletionBeforeElement();
        catchUpOrdinary();
        catchUpWrong();
        eventsCount();
        knownBits();
        clockRules();
        lengthRules();
        atAndMadeBy();
        placeOfRules();
        sameRules();
        elementsRules();
        fullAfterBad();
        fullOnlyForMaking();
        learnTestsInOrder();
        refusedCallsChangeNothing();
        System.out.println(wrong == 0 ? "all answers are as due" : wrong + " answers are not as due");
        if (wrong != 0) {
            System.exit(1);
        }
    }

    private static void constants() {
        due("BAD", SharedText.BAD, BAD);
        due("FULL", SharedText.FULL, FULL);
        due("EARLY", SharedText.EARLY, EARLY);
    }

    // Promise 1
    private static void newObject() {
        SharedText t = new SharedText();
        due("1: events()", t.events(), 0);
        for (int x = 0; x < 3; x++) {
            due("1: length", t.length(x), 0);
            due("1: known", t.known(x), 0);
            due("1: clock", t.clock(x), 0);
            due("1: elements", t.elements(x), 0);
            due("1: at", t.at(x, 0), BAD);
            due("1: madeBy", t.madeBy(x, 0), BAD);
            due("1: placeOf", t.placeOf(x, 0), BAD);
            due("1: erase", t.erase(x, 0), BAD);
            for (int y = 0; y < 3; y++) {
                due("1: same", t.same(x, y), true);
                due("1: learn", t.learn(x, y, 0), BAD);
                due("1: catchUp", t.catchUp(x, y), x == y ? BAD : 0);
            }
        }
    }

    private static void objectsAreApart() {
        SharedText a = new SharedText();
        type(a, 0, 0, "abc");
        SharedText b = new SharedText();
        due("1: events of another object", b.events(), 0);
        due("1: length of another object", b.length(0), 0);
        due("1: put in another object", b.put(0, 0, 25), 0);
        dueText("1: first object", a, 0, "abc");
    }

    // Promise 2
    private static void putOrdinary() {
        SharedText t = new SharedText();
        due("2: put(0, 0, 0)", t.put(0, 0, 0), 0);
        due("2: put(0, 1, 25)", t.put(0, 1, 25), 1);
        due("2: put(0, 1, 12)", t.put(0, 1, 12), 2);
        due("2: put(0, 0, 3)", t.put(0, 0, 3), 3);
        due("2: put(0, 4, 4)", t.put(0, 4, 4), 4);
        dueText("2: put", t, 0, "damze");
        due("2: put(2, 0, 1)", t.put(2, 0, 1), 5);
        dueText("2: put at 2", t, 2, "b");
        dueText("2: put elsewhere", t, 1, "");
    }

    private static void putWrong() {
        SharedText t = new SharedText();
        type(t, 0, 0, "ab");
        for (int x : NOT_REPLICAS) {
            due("2: put(" + x + ", 0, 0)", t.put(x, 0, 0), BAD);
        }
        for (int s : new int[] {-1, 26, 27, LOW, HIGH}) {
            due("2: put(0, 0, " + s + ")", t.put(0, 0, s), BAD);
        }
        for (int p : new int[] {-1, 3, 4, 30, LOW, HIGH}) {
            due("2: put(0, " + p + ", 0)", t.put(0, p, 0), BAD);
        }
        due("2: put(1, 1, 0), a place only another text has", t.put(1, 1, 0), BAD);
        due("2: events after wrong puts", t.events(), 2);
        due("2: clock after wrong puts", t.clock(0), 2);
        due("2: put at the end", t.put(0, 2, 2), 2);
    }

    private static void putNextToDeleted() {
        SharedText t = new SharedText();
        type(t, 0, 0, "abcd");
        t.erase(0, 1);
        t.erase(0, 1);
        dueText("2: two erased", t, 0, "ad");
        due("2: put(0, 1, 23)", t.put(0, 1, 23), 6);
        dueText("2: put behind a", t, 0, "axd");
        // x has the parent a and a greater stamp than b: it comes before the deleted ones.
        // So what another replica puts behind b stands between x and d.
        SharedText u = new SharedText();
        type(u, 0, 0, "abcd");
        u.catchUp(1, 0);
        u.erase(0, 1);
        u.erase(0, 1);
        u.put(0, 1, 23);
        u.put(1, 2, 24);
        u.catchUp(0, 1);
        dueText("2: behind a deleted parent", u, 0, "axyd");
        u.catchUp(1, 0);
        dueText("2: behind a deleted parent", u, 1, "axyd");
    }

    // THE ORDER
    private static void orderOfSiblings() {
        SharedText t = new SharedText();
        t.put(0, 0, 0);
        t.put(0, 0, 1);
        t.put(0, 0, 2);
        dueText("order: the greater time first", t, 0, "cba");
        t.put(0, 1, 3);
        t.put(0, 1, 4);
        dueText("order: children of c", t, 0, "cedba");
        t.catchUp(2, 0);
        dueText("order: children of c", t, 2, "cedba");
    }

    private static void orderBySameTimes() {
        SharedText t = new SharedText();
        t.put(1, 0, 1);
        t.put(0, 0, 0);
        t.put(2, 0, 2);
        t.catchUp(0, 1);
        dueText("order: 1 before 0", t, 0, "ba");
        t.catchUp(0, 2);
        dueText("order: 2 before 1 before 0", t, 0, "cba");
        t.catchUp(2, 0);
        t.catchUp(1, 2);
        dueText("order: same times at 1", t, 1, "cba");
        dueText("order: same times at 2", t, 2, "cba");
    }

    private static void orderWithDescendants() {
        SharedText t = new SharedText();
        type(t, 0, 0, "abc");
        type(t, 1, 0, "xyz");
        type(t, 2, 0, "pqr");
        t.catchUp(0, 2);
        dueText("order: words stay whole", t, 0, "pqrabc");
        t.catchUp(0, 1);
        dueText("order: words stay whole", t, 0, "pqrxyzabc");
        // A late child of a has a greater stamp than all, and still stays behind a.
        t.put(0, 7, 25);
        dueText("order: child of a", t, 0, "pqrxyzazbc");
        t.catchUp(1, 0);
        dueText("order: child of a", t, 1, "pqrxyzazbc");
    }

    private static void orderTimeBeforeReplica() {
        SharedText t = new SharedText();
        t.put(0, 0, 20);
        t.catchUp(2, 0);
        t.put(2, 1, 2);
        t.put(0, 0, 0);
        t.put(0, 2, 1);
        // b of replica 0 has time 3, c of replica 2 has time 2, both with the parent u.
        t.catchUp(0, 2);
        dueText("order: time before replica", t, 0, "aubc");
        t.catchUp(2, 0);
        dueText("order: time before replica", t, 2, "aubc");
    }

    private static void orderLateArrival() {
        SharedText t = new SharedText();
        t.put(0, 0, 0);
        t.catchUp(1, 0);
        t.catchUp(2, 0);
        t.put(2, 0, 25);
        t.put(2, 2, 3);
        type(t, 1, 1, "xy");
        t.put(0, 1, 1);
        // All children of a: d (3, 2), x (2, 1) with y behind it, b (2, 0).
        t.catchUp(0, 2);
        dueText("order: d before b", t, 0, "zadb");
        t.catchUp(0, 1);
        dueText("order: x with y between", t, 0, "zadxyb");
        t.catchUp(1, 0);
        dueText("order: the same at 1", t, 1, "zadxyb");
    }

    // Promise 3
    private static void eraseOrdinary() {
        SharedText t = new SharedText();
        type(t, 1, 0, "abcde");
        due("3: erase(1, 4)", t.erase(1, 4), 5);
        dueText("3: last", t, 1, "abcd");
        due("3: erase(1, 0)", t.erase(1, 0), 6);
        dueText("3: first", t, 1, "bcd");
        due("3: erase(1, 1)", t.erase(1, 1), 7);
        dueText("3: middle", t, 1, "bd");
        due("3: erase(1, 0)", t.erase(1, 0), 8);
        due("3: erase(1, 0)", t.erase(1, 0), 9);
        dueText("3: all", t, 1, "");
        due("3: erase(1, 0)", t.erase(1, 0), BAD);
    }

    private static void eraseWrong() {
        SharedText t = new SharedText();
        type(t, 0, 0, "ab");
        for (int x : NOT_REPLICAS) {
            due("3: erase(" + x + ", 0)", t.erase(x, 0), BAD);
        }
        for (int p : new int[] {-1, 2, 3, LOW, HIGH}) {
            due("3: erase(0, " + p + ")", t.erase(0, p), BAD);
        }
        due("3: erase(1, 0), a place only another text has", t.erase(1, 0), BAD);
        due("3: events after wrong erases", t.events(), 2);
        dueText("3: wrong erases", t, 0, "ab");
    }

    private static void eraseTwiceApart() {
        SharedText t = new SharedText();
        type(t, 0, 0, "ab");
        t.catchUp(1, 0);
        t.catchUp(2, 0);
        due("3: erase(0, 0)", t.erase(0, 0), 2);
        due("3: erase(1, 0)", t.erase(1, 0), 3);
        dueText("3: still deleted at 0", t, 0, "b");
        dueText("3: deleted at 1", t, 1, "b");
        dueText("3: 2 does not know of it", t, 2, "ab");
        due("3: learn the second deletion alone", t.learn(2, 1, 3), 1);
        dueText("3: the second deletion alone", t, 2, "b");
        due("3: learn the first deletion too", t.learn(2, 0, 2), 1);
        dueText("3: both deletions", t, 2, "b");
        due("3: elements(2)", t.elements(2), 2);
        due("3: catchUp(0, 1)", t.catchUp(0, 1), 1);
        dueText("3: both deletions at 0", t, 0, "b");
    }

    // Promise 4
    private static void learnOrdinary() {
        SharedText t = new SharedText();
        type(t, 0, 0, "a");
        t.erase(0, 0);
        due("4: learn(1, 0, 0)", t.learn(1, 0, 0), 1);
        dueText("4: the element alone", t, 1, "a");
        due("4: learn(1, 0, 0) again", t.learn(1, 0, 0), 0);
        due("4: learn(1, 0, 1)", t.learn(1, 0, 1), 1);
        dueText("4: the deletion too", t, 1, "");
        due("4: learn(1, 0, 1) again", t.learn(1, 0, 1), 0);
        due("4: learn(0, 1, 0) by the maker", t.learn(0, 1, 0), 0);
    }

    private static void learnWrong() {
        SharedText t = new SharedText();
        t.put(0, 0, 0);
        t.put(1, 0, 1);
        for (int x : NOT_REPLICAS) {
            due("4: learn(" + x + ", 0, 0)", t.learn(x, 0, 0), BAD);
            due("4: learn(1, " + x + ", 0)", t.learn(1, x, 0), BAD);
            due("4: learn(" + x + ", " + x + ", 0)", t.learn(x, x, 0), BAD);
        }
        for (int x = 0; x < 3; x++) {
            due("4: learn(" + x + ", " + x + ", 0)", t.learn(x, x, 0), BAD);
        }
        for (int e : new int[] {-1, 2, 29, 30, 31, 32, 33, 64, -32, LOW, HIGH}) {
            due("4: learn(1, 0, " + e + ")", t.learn(1, 0, e), BAD);
            due("4: learn(2, 0, " + e + ")", t.learn(2, 0, e), BAD);
        }
        due("4: learn(2, 0, 1), 0 does not know it", t.learn(2, 0, 1), BAD);
        due("4: learn(2, 1, 0), 1 does not know it", t.learn(2, 1, 0), BAD);
        due("4: known(2)", t.known(2), 0);
    }

    private static void learnEarly() {
        SharedText t = new SharedText();
        t.put(0, 0, 0);
        t.put(0, 0, 1);
        // b has no parent, but 0 knew a when it put b in.
        due("4: learn(1, 0, 1) needs event 0", t.learn(1, 0, 1), EARLY);
        due("4: known(1) after EARLY", t.known(1), 0);
        due("4: clock(1) after EARLY", t.clock(1), 0);
        due("4: learn(1, 0, 0)", t.learn(1, 0, 0), 1);
        due("4: learn(1, 0, 1)", t.learn(1, 0, 1), 1);
        // What 0 learns later is not needed for what it made before.
        t.put(2, 0, 2);
        t.put(0, 0, 3);
        t.catchUp(0, 2);
        due("4: learn(1, 0, 3) does not need event 2", t.learn(1, 0, 3), 1);
        t.put(0, 0, 4);
        due("4: learn(1, 0, 4) needs event 2", t.learn(1, 0, 4), EARLY);
        due("4: learn(1, 2, 2)", t.learn(1, 2, 2), 1);
        due("4: learn(1, 0, 4)", t.learn(1, 0, 4), 1);
    }

    private static void learnThroughThird() {
        SharedText t = new SharedText();
        type(t, 0, 0, "ab");
        due("4: learn(1, 0, 0)", t.learn(1, 0, 0), 1);
        due("4: learn(2, 1, 0) from one that did not make it", t.learn(2, 1, 0), 1);
        due("4: learn(2, 1, 1), 1 does not know it", t.learn(2, 1, 1), BAD);
        due("4: learn(2, 0, 1)", t.learn(2, 0, 1), 1);
        due("4: learn(1, 2, 1)", t.learn(1, 2, 1), 1);
        dueText("4: through the third", t, 1, "ab");
    }

    private static void learnDeletionBeforeElement() {
        SharedText t = new SharedText();
        type(t, 0, 0, "ab");
        t.erase(0, 0);
        due("4: the deletion before all", t.learn(1, 0, 2), EARLY);
        due("4: learn(1, 0, 0)", t.learn(1, 0, 0), 1);
        due("4: the deletion before b, which 0 knew", t.learn(1, 0, 2), EARLY);
        dueText("4: a is not deleted yet", t, 1, "a");
        // A deletion is itself an event that must be known before later ones.
        t.put(0, 1, 2);
        due("4: learn(1, 0, 1)", t.learn(1, 0, 1), 1);
        due("4: a put before the deletion", t.learn(1, 0, 3), EARLY);
        due("4: learn(1, 0, 2)", t.learn(1, 0, 2), 1);
        due("4: learn(1, 0, 3)", t.learn(1, 0, 3), 1);
        dueText("4: all learned", t, 1, "bc");
    }

    // Promise 5
    private static void catchUpOrdinary() {
        SharedText t = new SharedText();
        type(t, 0, 0, "abc");
        t.erase(0, 1);
        type(t, 1, 0, "x");
        due("5: learn(1, 0, 0)", t.learn(1, 0, 0), 1);
        due("5: catchUp(1, 0)", t.catchUp(1, 0), 3);
        due("5: catchUp(1, 0) again", t.catchUp(1, 0), 0);
        dueText("5: 1", t, 1, "xac");
        dueText("5: 0 is left as it was", t, 0, "ac");
        due("5: known(0)", t.known(0), 0b01111);
        due("5: clock(1)", t.clock(1), 3);
        due("5: catchUp(2, 1)", t.catchUp(2, 1), 5);
        due("5: catchUp(2, 0)", t.catchUp(2, 0), 0);
        due("5: catchUp(0, 2)", t.catchUp(0, 2), 1);
        dueText("5: 0", t, 0, "xac");
    }

    private static void catchUpWrong() {
        SharedText t = new SharedText();
        t.put(0, 0, 0);
        for (int x : NOT_REPLICAS) {
            due("5: catchUp(" + x + ", 0)", t.catchUp(x, 0), BAD);
            due("5: catchUp(1, " + x + ")", t.catchUp(1, x), BAD);
            due("5: catchUp(" + x + ", " + x + ")", t.catchUp(x, x), BAD);
        }
        for (int x = 0; x < 3; x++) {
            due("5: catchUp(" + x + ", " + x + ")", t.catchUp(x, x), BAD);
        }
        due("5: known(1)", t.known(1), 0);
        due("5: catchUp from one that knows nothing", t.catchUp(0, 2), 0);
    }

    // Promise 6
    private static void eventsCount() {
        SharedText t = new SharedText();
        t.put(0, 0, 0);
        due("6: after a put", t.events(), 1);
        t.put(2, 0, 0);
        due("6: after a put elsewhere", t.events(), 2);
        t.erase(0, 0);
        due("6: after an erase", t.events(), 3);
        t.catchUp(1, 0);
        t.learn(1, 2, 1);
        due("6: after learning", t.events(), 3);
        t.erase(0, 0);
        t.put(0, 5, 0);
        due("6: after wrong calls", t.events(), 3);
    }

    // Promise 7
    private static void knownBits() {
        SharedText t = new SharedText();
        t.put(0, 0, 0);
        t.put(1, 0, 0);
        t.put(0, 0, 0);
        t.erase(1, 0);
        due("7: known(0)", t.known(0), 0b0101);
        due("7: known(1)", t.known(1), 0b1010);
        due("7: known(2)", t.known(2), 0);
        t.learn(2, 1, 1);
        due("7: known(2)", t.known(2), 0b0010);
        t.catchUp(2, 0);
        due("7: known(2)", t.known(2), 0b0111);
        for (int x : NOT_REPLICAS) {
            due("7: known(" + x + ")", t.known(x), 0);
        }
        SharedText full = new SharedText();
        for (int i = 0; i < 30; i++) {
            full.put(1, 0, 0);
        }
        due("7: known(1) of all", full.known(1), (1 << 30) - 1);
    }

    // Promise 8
    private static void clockRules() {
        SharedText t = new SharedText();
        type(t, 0, 0, "abc");
        due("8: clock(0)", t.clock(0), 3);
        due("8: clock(1)", t.clock(1), 0);
        t.erase(0, 0);
        due("8: a deletion raises no clock", t.clock(0), 3);
        t.put(1, 0, 0);
        due("8: clock(1)", t.clock(1), 1);
        t.learn(1, 0, 0);
        due("8: learning the same time", t.clock(1), 1);
        t.learn(1, 0, 1);
        due("8: learning a greater time", t.clock(1), 2);
        t.learn(1, 0, 2);
        t.learn(1, 0, 3);
        due("8: learning a deletion", t.clock(1), 3);
        t.put(1, 0, 0);
        due("8: a put after learning", t.clock(1), 4);
        due("8: catchUp(0, 1)", t.catchUp(0, 1), 2);
        due("8: clock(0)", t.clock(0), 4);
        t.put(0, 0, 0);
        due("8: clock(0)", t.clock(0), 5);
        t.put(2, 0, 0);
        t.learn(0, 2, 7);
        due("8: learning a lesser time", t.clock(0), 5);
        for (int x : NOT_REPLICAS) {
            due("8: clock(" + x + ")", t.clock(x), BAD);
        }
    }

    // Promise 9
    private static void lengthRules() {
        SharedText t = new SharedText();
        type(t, 0, 0, "abc");
        due("9: length(0)", t.length(0), 3);
        due("9: length(1)", t.length(1), 0);
        t.erase(0, 1);
        due("9: length(0)", t.length(0), 2);
        t.learn(1, 0, 0);
        due("9: length(1)", t.length(1), 1);
        for (int x : NOT_REPLICAS) {
            due("9: length(" + x + ")", t.length(x), BAD);
        }
        SharedText full = new SharedText();
        for (int i = 0; i < 30; i++) {
            full.put(2, i, i % 26);
        }
        due("9: length(2) of all", full.length(2), 30);
    }

    // Promises 10 and 11
    private static void atAndMadeBy() {
        SharedText t = new SharedText();
        t.put(0, 0, 0);
        t.put(1, 0, 25);
        t.put(0, 0, 7);
        t.erase(0, 1);
        t.put(0, 1, 8);
        due("10: at(0, 0)", t.at(0, 0), 7);
        due("10: at(0, 1)", t.at(0, 1), 8);
        due("10: at(1, 0)", t.at(1, 0), 25);
        due("11: madeBy(0, 0)", t.madeBy(0, 0), 2);
        due("11: madeBy(0, 1)", t.madeBy(0, 1), 4);
        due("11: madeBy(1, 0)", t.madeBy(1, 0), 1);
        for (int p : new int[] {-1, 2, 3, LOW, HIGH}) {
            due("10: at(0, " + p + ")", t.at(0, p), BAD);
            due("11: madeBy(0, " + p + ")", t.madeBy(0, p), BAD);
        }
        due("10: at(2, 0)", t.at(2, 0), BAD);
        due("11: madeBy(2, 0)", t.madeBy(2, 0), BAD);
        for (int x : NOT_REPLICAS) {
            due("10: at(" + x + ", 0)", t.at(x, 0), BAD);
            due("11: madeBy(" + x + ", 0)", t.madeBy(x, 0), BAD);
        }
        SharedText zero = new SharedText();
        zero.put(2, 0, 0);
        due("10: the symbol 0", zero.at(2, 0), 0);
        due("11: the event 0", zero.madeBy(2, 0), 0);
    }

    // Promise 12
    private static void placeOfRules() {
        SharedText t = new SharedText();
        type(t, 0, 0, "abc");
        t.erase(0, 1);
        due("12: placeOf(0, 0)", t.placeOf(0, 0), 0);
        due("12: a deleted element", t.placeOf(0, 1), BAD);
        due("12: behind a deleted element", t.placeOf(0, 2), 1);
        due("12: a deletion", t.placeOf(0, 3), BAD);
        due("12: not known", t.placeOf(1, 0), BAD);
        t.learn(1, 0, 0);
        t.learn(1, 0, 1);
        due("12: deleted, but not known to be", t.placeOf(1, 1), 1);
        due("12: not known yet", t.placeOf(1, 2), BAD);
        for (int e : new int[] {-1, 4, 29, 30, 32, 33, LOW, HIGH}) {
            due("12: placeOf(0, " + e + ")", t.placeOf(0, e), BAD);
        }
        for (int x : NOT_REPLICAS) {
            due("12: placeOf(" + x + ", 0)", t.placeOf(x, 0), BAD);
        }
    }

    // Promise 13
    private static void sameRules() {
        SharedText t = new SharedText();
        t.put(0, 0, 4);
        due("13: one is empty", t.same(0, 1), false);
        due("13: one is empty", t.same(1, 0), false);
        due("13: both are empty", t.same(1, 2), true);
        due("13: with itself", t.same(0, 0), true);
        t.put(1, 0, 4);
        due("13: the same symbols of other elements", t.same(0, 1), true);
        t.put(2, 0, 5);
        due("13: other symbols", t.same(0, 2), false);
        t.put(0, 1, 5);
        t.put(1, 0, 5);
        due("13: the symbols in another order", t.same(0, 1), false);
        t.erase(1, 0);
        due("13: one is the beginning of the other", t.same(0, 1), false);
        due("13: one is the beginning of the other", t.same(1, 0), false);
        t.put(1, 1, 5);
        due("13: deleted ones do not count", t.same(0, 1), true);
        for (int x : NOT_REPLICAS) {
            due("13: same(" + x + ", 0)", t.same(x, 0), false);
            due("13: same(0, " + x + ")", t.same(0, x), false);
            due("13: same(" + x + ", " + x + ")", t.same(x, x), false);
        }
    }

    // Promise 14
    private static void elementsRules() {
        SharedText t = new SharedText();
        type(t, 0, 0, "abc");
        due("14: elements(0)", t.elements(0), 3);
        t.erase(0, 0);
        due("14: deleted ones too", t.elements(0), 3);
        due("14: elements(1)", t.elements(1), 0);
        t.learn(1, 0, 0);
        due("14: elements(1)", t.elements(1), 1);
        t.catchUp(1, 0);
        due("14: elements(1)", t.elements(1), 3);
        for (int x : NOT_REPLICAS) {
            due("14: elements(" + x + ")", t.elements(x), BAD);
        }
    }

    // Promise 15
    private static void fullAfterBad() {
        SharedText t = new SharedText();
        for (int e = 0; e < 29; e++) {
            due("15: put", t.put(0, e, e % 26), e);
        }
        due("15: the last event", t.put(1, 0, 3), 29);
        due("15: put(0, 29, 0)", t.put(0, 29, 0), FULL);
        due("15: put(0, 0, 25)", t.put(0, 0, 25), FULL);
        due("15: put(2, 0, 0)", t.put(2, 0, 0), FULL);
        due("15: erase(0, 28)", t.erase(0, 28), FULL);
        due("15: erase(1, 0)", t.erase(1, 0), FULL);
        due("15: put(3, 0, 0)", t.put(3, 0, 0), BAD);
        due("15: put(-1, 0, 0)", t.put(-1, 0, 0), BAD);
        due("15: put(0, 0, 26)", t.put(0, 0, 26), BAD);
        due("15: put(0, 0, -1)", t.put(0, 0, -1), BAD);
        due("15: put(0, 30, 0)", t.put(0, 30, 0), BAD);
        due("15: put(0, -1, 0)", t.put(0, -1, 0), BAD);
        due("15: put(2, 1, 0)", t.put(2, 1, 0), BAD);
        due("15: erase(0, 29)", t.erase(0, 29), BAD);
        due("15: erase(0, -1)", t.erase(0, -1), BAD);
        due("15: erase(2, 0)", t.erase(2, 0), BAD);
        due("15: erase(3, 0)", t.erase(3, 0), BAD);
        due("15: events()", t.events(), 30);
        due("15: clock(0)", t.clock(0), 29);
        due("15: length(0)", t.length(0), 29);
        due("15: known(0)", t.known(0), (1 << 29) - 1);
    }

    private static void fullOnlyForMaking() {
        SharedText t = new SharedText();
        t.put(0, 0, 1);
        t.catchUp(1, 0);
        for (int e = 1; e < 29; e++) {
            t.put(0, 0, 2);
        }
        due("15: an erase as the last event", t.erase(1, 0), 29);
        due("15: events()", t.events(), 30);
        due("15: learn(2, 0, 0) when full", t.learn(2, 0, 0), 1);
        due("15: learn(2, 1, 29) when full", t.learn(2, 1, 29), 1);
        due("15: catchUp(2, 0) when full", t.catchUp(2, 0), 28);
        due("15: catchUp(0, 2) when full", t.catchUp(0, 2), 1);
        due("15: length(0)", t.length(0), 28);
        due("15: same(0, 2)", t.same(0, 2), true);
    }

    private static void learnTestsInOrder() {
        SharedText t = new SharedText();
        type(t, 0, 0, "ab");
        due("15: x knows the event and y does not", t.learn(0, 1, 0), BAD);
        due("15: x = y, x knows it", t.learn(0, 0, 0), BAD);
        due("15: neither knows it and it would be early", t.learn(1, 2, 1), BAD);
        due("15: early", t.learn(1, 0, 1), EARLY);
        t.catchUp(1, 0);
        due("15: x knew it", t.learn(1, 0, 1), 0);
        due("15: x knew it, the other way round", t.learn(0, 1, 1), 0);
    }

    private static void refusedCallsChangeNothing() {
        SharedText t = new SharedText();
        type(t, 0, 0, "ab");
        t.erase(0, 0);
        t.learn(1, 0, 0);
        t.put(0, 9, 0);
        t.put(0, 0, 26);
        t.erase(0, 1);
        t.learn(1, 0, 2);
        t.learn(1, 0, 0);
        t.learn(1, 2, 0);
        t.catchUp(0, 0);
        due("15: events()", t.events(), 3);
        due("15: known(0)", t.known(0), 0b111);
        due("15: known(1)", t.known(1), 0b001);
        due("15: known(2)", t.known(2), 0);
        due("15: clock(0)", t.clock(0), 2);
        due("15: clock(1)", t.clock(1), 1);
        dueText("15: refused", t, 0, "b");
        dueText("15: refused", t, 1, "a");
    }
}
