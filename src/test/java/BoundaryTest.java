import java.util.ArrayList;
import java.util.List;
import java.util.function.Consumer;
import java.util.function.ToIntFunction;

/**
 * Each sentence of the document that names a boundary case, in a test of its own. A test begins
 * with the sentence it is for, and an answer that is not due is printed with it.
 */
public final class BoundaryTest {
    private static final int BAD = -1;
    private static final int FULL = -2;
    private static final int EARLY = -3;
    private static final int LOW = Integer.MIN_VALUE;
    private static final int HIGH = Integer.MAX_VALUE;
    private static final int MOST_CALLS = 512;
    private static final int[] NO_REPLICA = {-1, 3, LOW, HIGH};
    // A shift by such a number may hit the bit of an event: by 32 or -32 that of 0, by 33 or -31 that of 1.
    private static final int[] NO_EVENT = {-1, -2, -31, -32, 30, 31, 32, 33, 61, 64, LOW, LOW + 1, HIGH, HIGH - 1};

    private static String sentence = "";
    private static int wrong = 0;

    private static void says(String where, String words) {
        sentence = where + ", \"" + words + "\"";
    }

    private static void due(String call, long got, long want) {
        if (got != want) {
            wrong++;
            System.out.println(sentence + ": " + call + " answered " + got + ", due is " + want);
        }
    }

    private static void due(String call, boolean got, boolean want) {
        due(call, got ? 1 : 0, want ? 1 : 0);
    }

    private static void dueText(SharedText t, int x, String want) {
        StringBuilder got = new StringBuilder();
        for (int p = 0; p < t.length(x); p++) {
            got.append((char) ('a' + t.at(x, p)));
        }
        if (!got.toString().equals(want)) {
            wrong++;
            System.out.println(sentence + ": the text of " + x + " is '" + got + "', due is '" + want + "'");
        }
    }

    private static void type(SharedText t, int x, int p, String word) {
        for (int i = 0; i < word.length(); i++) {
            t.put(x, p + i, word.charAt(i) - 'a');
        }
    }

    private static SharedText typed(int x, String word) {
        SharedText t = new SharedText();
        type(t, x, 0, word);
        return t;
    }

    /** Replica 0 puts all the events in, each behind the one before. */
    private static SharedText withEvents(int count) {
        SharedText t = new SharedText();
        for (int e = 0; e < count; e++) {
            due("put(0, " + e + ", " + e % 26 + ")", t.put(0, e, e % 26), e);
        }
        return t;
    }

    /** A call that throws is a fault of the sentence it was made for, and the other tests still run. */
    private static void run(Runnable... tests) {
        for (Runnable test : tests) {
            try {
                test.run();
            } catch (RuntimeException thrown) {
                wrong++;
                System.out.println(sentence + ": " + thrown + " was thrown");
            }
        }
    }

    public static void main(String[] args) {
        terms();
        promise1();
        promise2();
        promise3();
        promise4();
        promise5();
        promises6To9();
        promises10To12();
        promises13And14();
        promise15();
        refusals();
        System.out.println(wrong == 0 ? "all answers are as due" : wrong + " answers are not as due");
        if (wrong != 0) {
            System.exit(1);
        }
    }

    private static void terms() {
        run(
            BoundaryTest::lastCall,
            BoundaryTest::clockAtFirst,
            BoundaryTest::sameTime,
            BoundaryTest::deletedStay,
            BoundaryTest::nothingMustBeKnown,
            BoundaryTest::makersKnowledge,
            BoundaryTest::clockIfItWasLess);
    }

    private static void promise1() {
        run(BoundaryTest::emptyTexts);
    }

    private static void promise2() {
        run(
            BoundaryTest::putAtItsEnds,
            BoundaryTest::putAtZeroHasNoParent,
            BoundaryTest::putAtLengthBehindDeleted,
            BoundaryTest::putNoReplica,
            BoundaryTest::putNoSymbol,
            BoundaryTest::putNoPlace,
            BoundaryTest::putFull,
            BoundaryTest::putFullOfAll);
    }

    private static void promise3() {
        run(
            BoundaryTest::eraseAtItsEnds,
            BoundaryTest::eraseNoReplica,
            BoundaryTest::eraseNoPlace,
            BoundaryTest::eraseFull);
    }

    private static void promise4() {
        run(
            BoundaryTest::learnNow,
            BoundaryTest::learnKnown,
            BoundaryTest::learnNoReplica,
            BoundaryTest::learnFromItself,
            BoundaryTest::learnNoEvent,
            BoundaryTest::learnNotKnownByY,
            BoundaryTest::learnEarly);
    }

    private static void promise5() {
        run(
            BoundaryTest::catchUpNone,
            BoundaryTest::catchUpAll,
            BoundaryTest::catchUpNoReplica,
            BoundaryTest::catchUpFromItself);
    }

    private static void promises6To9() {
        run(
            BoundaryTest::eventsFromNoneToAll,
            BoundaryTest::knownFirstAndLastBit,
            BoundaryTest::knownNoReplica,
            BoundaryTest::clockFromNoneToAll,
            BoundaryTest::clockNoReplica,
            BoundaryTest::lengthFromNoneToAll,
            BoundaryTest::lengthNoReplica);
    }

    private static void promises10To12() {
        run(
            BoundaryTest::atItsEnds,
            BoundaryTest::atNoReplica,
            BoundaryTest::atNoPlace,
            BoundaryTest::madeByItsEnds,
            BoundaryTest::madeByBadAsInAt,
            BoundaryTest::placeOfItsEnds,
            BoundaryTest::placeOfNoReplica,
            BoundaryTest::placeOfNoPuttingIn,
            BoundaryTest::placeOfNotKnown,
            BoundaryTest::placeOfDeleted);
    }

    private static void promises13And14() {
        run(
            BoundaryTest::sameEmpty,
            BoundaryTest::sameSymbolBySymbol,
            BoundaryTest::sameNoReplica,
            BoundaryTest::elementsFromNoneToAll,
            BoundaryTest::elementsDeletedToo,
            BoundaryTest::elementsNoReplica);
    }

    private static void promise15() {
        run(
            BoundaryTest::putBadBeforeFull,
            BoundaryTest::eraseBadBeforeFull,
            BoundaryTest::learnBadBeforeKnown,
            BoundaryTest::learnBadBeforeEarly,
            BoundaryTest::learnKnownBeforeEarly);
    }

    private static void refusals() {
        run(
            BoundaryTest::refusedInEmpty,
            BoundaryTest::refusedInBusy,
            BoundaryTest::refusedInFull,
            BoundaryTest::anyArgumentsInAnyState);
    }

    // ---- What it is, and Terms

    private static void lastCall() {
        says("What it is", "An object is used for at most 512 calls after it has been made");
        SharedText t = new SharedText();
        for (int call = 1; call < MOST_CALLS; call++) {
            due("call " + call + ", put(0, 1, 0)", t.put(0, 1, 0), BAD);
        }
        due("call 512, put(0, 0, 0)", t.put(0, 0, 0), 0);
        SharedText u = typed(0, "a");
        for (int call = 2; call < MOST_CALLS; call++) {
            due("call " + call + ", erase(0, 1)", u.erase(0, 1), BAD);
        }
        due("call 512, erase(0, 0)", u.erase(0, 0), 1);
        SharedText full = withEvents(30);
        for (int call = 31; call < MOST_CALLS; call++) {
            due("call " + call + ", learn(1, 0, 29)", full.learn(1, 0, 29), EARLY);
        }
        due("call 512, catchUp(1, 0)", full.catchUp(1, 0), 30);
    }

    private static void clockAtFirst() {
        says("Terms", "Every replica has a clock, 0 at first; putting an element in raises its clock by 1");
        for (int x = 0; x < 3; x++) {
            SharedText t = new SharedText();
            due("clock(" + x + ")", t.clock(x), 0);
            t.put(x, 0, 0);
            due("clock(" + x + ")", t.clock(x), 1);
            due("clock of another", t.clock((x + 1) % 3), 0);
        }
    }

    private static void sameTime() {
        says("Terms", "Stamps are compared by time, then by replica.");
        for (int x = 0; x < 3; x++) {
            for (int y = 0; y < 3; y++) {
                if (x != y) {
                    SharedText t = new SharedText();
                    t.put(x, 0, x);
                    t.put(y, 0, y);
                    t.catchUp(x, y);
                    due("at(" + x + ", 0)", t.at(x, 0), x > y ? x : y);
                    due("at(" + x + ", 1)", t.at(x, 1), x > y ? y : x);
                }
            }
        }
        SharedText t = new SharedText();
        type(t, 0, 0, "a");
        t.put(0, 0, 1);
        t.put(2, 0, 2);
        t.catchUp(2, 0);
        // b has time 2, c of the greater replica and a have time 1.
        dueText(t, 2, "bca");
    }

    private static void deletedStay() {
        says("Terms", "Elements can be marked as deleted, but stay where they are.");
        SharedText t = typed(0, "abc");
        t.catchUp(1, 0);
        t.erase(0, 0);
        t.erase(0, 0);
        t.erase(0, 0);
        dueText(t, 0, "");
        t.put(1, 2, 23);
        t.put(1, 1, 24);
        t.put(1, 0, 25);
        t.catchUp(0, 1);
        dueText(t, 0, "zyx");
        dueText(t, 1, "zaybxc");
        t.catchUp(1, 0);
        dueText(t, 1, "zyx");
    }

    private static void nothingMustBeKnown() {
        says("Terms", "(e itself not counted)");
        SharedText t = new SharedText();
        t.put(0, 0, 0);
        t.put(1, 0, 1);
        t.put(2, 0, 2);
        due("learn(0, 2, 2)", t.learn(0, 2, 2), 1);
        due("learn(0, 1, 1)", t.learn(0, 1, 1), 1);
        due("learn(1, 0, 0)", t.learn(1, 0, 0), 1);
        due("learn(2, 1, 1)", t.learn(2, 1, 1), 1);
    }

    private static void makersKnowledge() {
        says("Terms", "every event that the replica that made e knew when it made it");
        SharedText t = new SharedText();
        t.put(1, 0, 1);
        t.put(0, 0, 0);
        t.catchUp(0, 1);
        t.put(0, 0, 2);
        // Event 1 was made before its maker learned event 0, event 2 after it.
        due("learn(2, 0, 1)", t.learn(2, 0, 1), 1);
        due("learn(2, 0, 2)", t.learn(2, 0, 2), EARLY);
        due("learn(2, 1, 0)", t.learn(2, 1, 0), 1);
        due("learn(2, 0, 2)", t.learn(2, 0, 2), 1);
        // What the one that hands it on knows, beyond what the maker knew, is not asked for.
        SharedText u = new SharedText();
        u.put(0, 0, 0);
        type(u, 1, 0, "xyz");
        u.catchUp(1, 0);
        due("learn(2, 1, 0)", u.learn(2, 1, 0), 1);
    }

    private static void clockIfItWasLess() {
        says("Terms", "raises the clock of the replica to its time, if it was less");
        SharedText t = typed(0, "abc");
        t.put(1, 0, 0);
        t.put(1, 0, 0);
        t.learn(1, 0, 0);
        due("clock(1), the time 1 is less", t.clock(1), 2);
        t.learn(1, 0, 1);
        due("clock(1), the time 2 is the same", t.clock(1), 2);
        t.learn(1, 0, 2);
        due("clock(1), the time 3 is greater by 1", t.clock(1), 3);
        t.erase(0, 0);
        t.learn(1, 0, 5);
        due("clock(1), a deletion", t.clock(1), 3);
        t.catchUp(2, 1);
        due("clock(2), greater by 3", t.clock(2), 3);
    }

    // ---- Promise 1

    private static void emptyTexts() {
        says("Promise 1", "Empty texts.");
        for (int x = 0; x < 3; x++) {
            SharedText t = new SharedText();
            due("length(" + x + ")", t.length(x), 0);
            due("at(" + x + ", 0)", t.at(x, 0), BAD);
            due("madeBy(" + x + ", 0)", t.madeBy(x, 0), BAD);
            due("placeOf(" + x + ", 0)", t.placeOf(x, 0), BAD);
            due("erase(" + x + ", 0)", t.erase(x, 0), BAD);
            due("put(" + x + ", 1, 0)", t.put(x, 1, 0), BAD);
            due("elements(" + x + ")", t.elements(x), 0);
            due("known(" + x + ")", t.known(x), 0);
            due("events()", t.events(), 0);
            due("put(" + x + ", 0, 0)", t.put(x, 0, 0), 0);
        }
    }

    // ---- Promise 2

    private static void putAtItsEnds() {
        says("Promise 2", "so that it stands at place p of x's text (0 .. its length)");
        for (int x = 0; x < 3; x++) {
            SharedText t = new SharedText();
            due("put at 0 of an empty text", t.put(x, 0, 1), 0);
            dueText(t, x, "b");
            due("put at the length 1", t.put(x, 1, 2), 1);
            dueText(t, x, "bc");
            due("put at 0", t.put(x, 0, 0), 2);
            dueText(t, x, "abc");
            due("put at the length 3", t.put(x, 3, 3), 3);
            dueText(t, x, "abcd");
            due("put at the last place", t.put(x, 3, 25), 4);
            dueText(t, x, "abczd");
        }
    }

    private static void putAtZeroHasNoParent() {
        says("Promise 2", "or none for p = 0");
        SharedText t = typed(0, "a");
        t.catchUp(1, 0);
        t.erase(0, 0);
        t.put(0, 0, 25);
        t.put(1, 1, 1);
        t.put(1, 2, 2);
        // z (2, 0) as a child of the deleted a would come behind b (2, 1) with its c.
        t.catchUp(0, 1);
        dueText(t, 0, "zbc");
        t.catchUp(1, 0);
        dueText(t, 1, "zbc");
    }

    private static void putAtLengthBehindDeleted() {
        says("Promise 2", "its parent is the element of the symbol at place p - 1 then");
        SharedText t = typed(0, "ab");
        t.catchUp(1, 0);
        t.erase(0, 1);
        due("put(0, 1, 23), the length", t.put(0, 1, 23), 3);
        t.put(1, 2, 2);
        // x (3, 0) as a child of the deleted b would come behind c (3, 1).
        t.catchUp(0, 1);
        dueText(t, 0, "axc");
    }

    private static void putNoReplica() {
        says("Promise 2", "BAD when x is not 0 .. 2");
        for (int x : NO_REPLICA) {
            SharedText t = typed(2, "a");
            due("put(" + x + ", 0, 0)", t.put(x, 0, 0), BAD);
            due("put(" + x + ", 1, 0)", t.put(x, 1, 0), BAD);
            due("events()", t.events(), 1);
        }
        for (int x = 0; x < 3; x++) {
            due("put(" + x + ", 0, 0)", new SharedText().put(x, 0, 0), 0);
        }
    }

    private static void putNoSymbol() {
        says("Promise 2", "s is not 0 .. 25");
        for (int s : new int[] {-1, 26, LOW, HIGH}) {
            SharedText t = typed(1, "a");
            due("put(1, 0, " + s + ")", t.put(1, 0, s), BAD);
            due("put(1, 1, " + s + ")", t.put(1, 1, s), BAD);
            due("events()", t.events(), 1);
        }
        for (int s : new int[] {0, 1, 24, 25}) {
            SharedText t = new SharedText();
            due("put(1, 0, " + s + ")", t.put(1, 0, s), 0);
            due("at(1, 0)", t.at(1, 0), s);
        }
    }

    private static void putNoPlace() {
        says("Promise 2", "or there is no such place");
        SharedText empty = new SharedText();
        for (int p : new int[] {-1, 1, 2, LOW, LOW + 1, HIGH}) {
            due("put(0, " + p + ", 0) in an empty text", empty.put(0, p, 0), BAD);
        }
        SharedText t = typed(0, "abc");
        for (int p : new int[] {-1, 4, 5, LOW, LOW + 1, HIGH}) {
            due("put(0, " + p + ", 0) in a text of 3", t.put(0, p, 0), BAD);
        }
        due("put(1, 1, 0), a place of another text", t.put(1, 1, 0), BAD);
        t.erase(0, 0);
        due("put(0, 3, 0), no place since the erase", t.put(0, 3, 0), BAD);
        due("put(0, 2, 0), the length since the erase", t.put(0, 2, 0), 4);
        t.erase(0, 0);
        t.erase(0, 0);
        t.erase(0, 0);
        due("put(0, 1, 0), all erased", t.put(0, 1, 0), BAD);
        due("put(0, 0, 0), all erased", t.put(0, 0, 0), 8);
    }

    private static void putFull() {
        says("Promise 2", "FULL when 30 events were made");
        SharedText t = withEvents(29);
        due("put(0, 29, 7), the 30th event", t.put(0, 29, 7), 29);
        due("put(0, 30, 7), the 31st", t.put(0, 30, 7), FULL);
        due("put(0, 0, 7), once more", t.put(0, 0, 7), FULL);
        due("put(1, 0, 7), at one that knows none", t.put(1, 0, 7), FULL);
        due("events()", t.events(), 30);
        due("length(0)", t.length(0), 30);
        due("length(1)", t.length(1), 0);
        due("at(0, 29)", t.at(0, 29), 7);
        due("clock(0)", t.clock(0), 30);
    }

    private static void putFullOfAll() {
        says("Terms", "at most 30 events are made");
        SharedText t = new SharedText();
        for (int e = 0; e < 30; e += 3) {
            due("put(0, 0, 0)", t.put(0, 0, 0), e);
            due("put(1, 0, 0)", t.put(1, 0, 0), e + 1);
            due("erase(1, 0)", t.erase(1, 0), e + 2);
        }
        for (int x = 0; x < 3; x++) {
            due("put(" + x + ", 0, 0), puts of two and deletions", t.put(x, 0, 0), FULL);
        }
        due("erase(0, 0)", t.erase(0, 0), FULL);
        due("events()", t.events(), 30);
    }

    // ---- Promise 3

    private static void eraseAtItsEnds() {
        says("Promise 3", "deletes the symbol at place p of x's text");
        for (int x = 0; x < 3; x++) {
            SharedText t = typed(x, "abcd");
            due("erase the last place", t.erase(x, 3), 4);
            dueText(t, x, "abc");
            due("erase the place 0", t.erase(x, 0), 5);
            dueText(t, x, "bc");
            due("erase the place 0", t.erase(x, 0), 6);
            due("erase the only place", t.erase(x, 0), 7);
            dueText(t, x, "");
        }
    }

    private static void eraseNoReplica() {
        says("Promise 3", "BAD when x is not 0 .. 2");
        for (int x : NO_REPLICA) {
            SharedText t = typed(0, "a");
            t.catchUp(1, 0);
            t.catchUp(2, 0);
            due("erase(" + x + ", 0)", t.erase(x, 0), BAD);
            due("events()", t.events(), 1);
        }
        for (int x = 0; x < 3; x++) {
            due("erase(" + x + ", 0)", typed(x, "a").erase(x, 0), 1);
        }
    }

    private static void eraseNoPlace() {
        says("Promise 3", "or there is no such place");
        SharedText empty = new SharedText();
        for (int p : new int[] {-1, 0, 1, LOW, HIGH}) {
            due("erase(0, " + p + ") in an empty text", empty.erase(0, p), BAD);
        }
        SharedText t = typed(0, "abc");
        for (int p : new int[] {-1, 3, 4, LOW, HIGH}) {
            due("erase(0, " + p + ") in a text of 3", t.erase(0, p), BAD);
        }
        due("erase(1, 0), a place of another text", t.erase(1, 0), BAD);
        t.erase(0, 1);
        due("erase(0, 2), no place since the erase", t.erase(0, 2), BAD);
        t.erase(0, 0);
        t.erase(0, 0);
        due("erase(0, 0), all erased", t.erase(0, 0), BAD);
        due("events()", t.events(), 6);
    }

    private static void eraseFull() {
        says("Promise 3", "FULL when 30 events were made");
        SharedText t = withEvents(29);
        due("erase(0, 28), the 30th event", t.erase(0, 28), 29);
        due("erase(0, 27), the 31st", t.erase(0, 27), FULL);
        due("erase(0, 0), once more", t.erase(0, 0), FULL);
        due("events()", t.events(), 30);
        due("length(0)", t.length(0), 28);
    }

    // ---- Promise 4

    private static void learnNow() {
        says("Promise 4", "Answers 1 when it learns it now");
        SharedText t = withEvents(29);
        t.erase(0, 0);
        for (int e = 0; e < 30; e++) {
            due("learn(2, 0, " + e + ")", t.learn(2, 0, e), 1);
            due("known(2)", t.known(2), (1 << (e + 1)) - 1);
        }
        dueText(t, 2, "bcdefghijklmnopqrstuvwxyzabc");
    }

    private static void learnKnown() {
        says("Promise 4", "0 when it knew it");
        SharedText t = typed(0, "a");
        t.erase(0, 0);
        t.catchUp(1, 0);
        t.learn(2, 1, 0);
        due("learn(1, 0, 0), learned from 0", t.learn(1, 0, 0), 0);
        due("learn(1, 0, 1), a deletion", t.learn(1, 0, 1), 0);
        due("learn(0, 1, 0), made by itself", t.learn(0, 1, 0), 0);
        due("learn(0, 1, 1), made by itself", t.learn(0, 1, 1), 0);
        due("learn(2, 0, 0), learned from another", t.learn(2, 0, 0), 0);
        SharedText full = withEvents(30);
        full.catchUp(1, 0);
        due("learn(1, 0, 29)", full.learn(1, 0, 29), 0);
    }

    private static void learnNoReplica() {
        says("Promise 4", "BAD when x or y is not 0 .. 2");
        for (int v : NO_REPLICA) {
            SharedText t = typed(0, "a");
            t.catchUp(1, 0);
            t.catchUp(2, 0);
            for (int x = 0; x < 3; x++) {
                due("learn(" + v + ", " + x + ", 0)", t.learn(v, x, 0), BAD);
                due("learn(" + x + ", " + v + ", 0)", t.learn(x, v, 0), BAD);
            }
            for (int w : NO_REPLICA) {
                due("learn(" + v + ", " + w + ", 0)", t.learn(v, w, 0), BAD);
            }
        }
    }

    private static void learnFromItself() {
        says("Promise 4", "x = y");
        SharedText t = typed(0, "ab");
        t.learn(1, 0, 0);
        due("learn(0, 0, 0), which it knows", t.learn(0, 0, 0), BAD);
        due("learn(1, 1, 0), which it knows", t.learn(1, 1, 0), BAD);
        due("learn(1, 1, 1), which it does not know", t.learn(1, 1, 1), BAD);
        due("learn(2, 2, 0), which it does not know", t.learn(2, 2, 0), BAD);
        due("learn(2, 2, 2), which there is not", t.learn(2, 2, 2), BAD);
    }

    private static void learnNoEvent() {
        says("Promise 4", "there is no event e");
        due("learn(1, 0, 0) of none", new SharedText().learn(1, 0, 0), BAD);
        SharedText t = typed(0, "ab");
        SharedText full = withEvents(30);
        full.catchUp(2, 0);
        for (int e : NO_EVENT) {
            due("learn(1, 0, " + e + ") of 2", t.learn(1, 0, e), BAD);
            due("learn(1, 0, " + e + ") of 30", full.learn(1, 0, e), BAD);
            due("learn(2, 0, " + e + ") of 30 that both know", full.learn(2, 0, e), BAD);
        }
        due("learn(1, 0, 2) of 2", t.learn(1, 0, 2), BAD);
        due("learn(1, 0, 29) of 2", t.learn(1, 0, 29), BAD);
        due("known(1) of 2", t.known(1), 0);
        due("known(1) of 30", full.known(1), 0);
        due("learn(1, 0, 1) of 2", t.learn(1, 0, 1), EARLY);
    }

    private static void learnNotKnownByY() {
        says("Promise 4", "or y does not know it");
        SharedText t = typed(0, "ab");
        t.learn(1, 0, 0);
        due("learn(2, 1, 1), 1 knows the one before", t.learn(2, 1, 1), BAD);
        t.learn(2, 1, 0);
        due("learn(2, 1, 1), 2 knows all it must know before", t.learn(2, 1, 1), BAD);
        due("learn(2, 0, 1), 0 knows it", t.learn(2, 0, 1), 1);
        t.erase(1, 0);
        due("learn(2, 0, 2), a deletion", t.learn(2, 0, 2), BAD);
        due("learn(2, 1, 2)", t.learn(2, 1, 2), 1);
    }

    private static void learnEarly() {
        says("Promise 4", "EARLY when x does not know yet all that it must know before");
        SharedText t = new SharedText();
        t.put(0, 0, 0);
        t.put(1, 0, 1);
        t.catchUp(0, 1);
        t.put(0, 0, 2);
        t.erase(0, 0);
        t.put(0, 0, 4);
        // 0 knew the events 0 and 1 when it made 2, and the deletion 3 when it made 4.
        due("learn(1, 0, 2), the maker's own is missing", t.learn(1, 0, 2), EARLY);
        due("learn(2, 0, 2), both are missing", t.learn(2, 0, 2), EARLY);
        due("learn(2, 0, 0)", t.learn(2, 0, 0), 1);
        due("learn(2, 0, 2), one that the maker learned is missing", t.learn(2, 0, 2), EARLY);
        due("learn(2, 0, 1)", t.learn(2, 0, 1), 1);
        due("learn(2, 0, 2)", t.learn(2, 0, 2), 1);
        due("learn(2, 0, 4), a deletion is missing", t.learn(2, 0, 4), EARLY);
        due("known(2)", t.known(2), 0b00111);
        due("clock(2)", t.clock(2), 2);
        due("learn(2, 0, 3), the deletion", t.learn(2, 0, 3), 1);
        due("learn(2, 0, 4)", t.learn(2, 0, 4), 1);
        SharedText full = withEvents(30);
        due("learn(1, 0, 29) of 30", full.learn(1, 0, 29), EARLY);
        for (int e = 0; e < 28; e++) {
            full.learn(1, 0, e);
        }
        due("learn(1, 0, 29) without the 29th alone", full.learn(1, 0, 29), EARLY);
        due("learn(1, 0, 28)", full.learn(1, 0, 28), 1);
        due("learn(1, 0, 29)", full.learn(1, 0, 29), 1);
    }

    // ---- Promise 5

    private static void catchUpNone() {
        says("Promise 5", "answers how many were new to x");
        SharedText t = new SharedText();
        due("catchUp(0, 1), neither knows any", t.catchUp(0, 1), 0);
        t.put(0, 0, 0);
        due("catchUp(0, 1), only x knows any", t.catchUp(0, 1), 0);
        due("catchUp(1, 0), one", t.catchUp(1, 0), 1);
        due("catchUp(1, 0), none any more", t.catchUp(1, 0), 0);
        t.put(0, 0, 0);
        t.put(1, 0, 0);
        due("catchUp(1, 0), one and one that y does not know", t.catchUp(1, 0), 1);
    }

    private static void catchUpAll() {
        says("Promise 5", "Lets replica x learn all events that replica y knows");
        SharedText t = withEvents(30);
        due("catchUp(1, 0) of 30", t.catchUp(1, 0), 30);
        due("known(1)", t.known(1), (1 << 30) - 1);
        due("learn(2, 1, 0)", t.learn(2, 1, 0), 1);
        due("catchUp(2, 1) of the other 29", t.catchUp(2, 1), 29);
        due("clock(2)", t.clock(2), 30);
        due("same(0, 2)", t.same(0, 2), true);
    }

    private static void catchUpNoReplica() {
        says("Promise 5", "BAD when x or y is not 0 .. 2");
        for (int v : NO_REPLICA) {
            SharedText t = typed(0, "a");
            for (int x = 0; x < 3; x++) {
                due("catchUp(" + v + ", " + x + ")", t.catchUp(v, x), BAD);
                due("catchUp(" + x + ", " + v + ")", t.catchUp(x, v), BAD);
            }
            for (int w : NO_REPLICA) {
                due("catchUp(" + v + ", " + w + ")", t.catchUp(v, w), BAD);
            }
        }
    }

    private static void catchUpFromItself() {
        says("Promise 5", "or x = y");
        SharedText t = typed(0, "a");
        for (int x = 0; x < 3; x++) {
            due("catchUp(" + x + ", " + x + ")", t.catchUp(x, x), BAD);
        }
    }

    // ---- Promises 6 to 9

    private static void eventsFromNoneToAll() {
        says("Promise 6", "The number of events.");
        SharedText t = new SharedText();
        for (int e = 0; e < 30; e++) {
            due("events()", t.events(), e);
            if (e % 2 == 0) {
                t.put(e % 3, 0, 0);
            } else {
                t.erase((e - 1) % 3, 0);
            }
        }
        due("events()", t.events(), 30);
        t.put(0, 0, 0);
        due("events() after FULL", t.events(), 30);
    }

    private static void knownFirstAndLastBit() {
        says("Promise 7", "bit e for event e");
        SharedText t = new SharedText();
        due("known(0) of none", t.known(0), 0);
        t.put(0, 0, 0);
        due("known(0), the bit 0", t.known(0), 1);
        for (int e = 1; e < 29; e++) {
            t.put(1, 0, 0);
        }
        t.put(2, 0, 0);
        due("known(1), the bits between", t.known(1), (1 << 29) - 2);
        due("known(2), the bit 29", t.known(2), 1 << 29);
        t.catchUp(2, 0);
        t.catchUp(2, 1);
        due("known(2), all 30", t.known(2), (1 << 30) - 1);
    }

    private static void knownNoReplica() {
        says("Promise 7", "0 when x is not 0 .. 2");
        SharedText t = typed(0, "a");
        t.catchUp(1, 0);
        t.catchUp(2, 0);
        for (int x : NO_REPLICA) {
            due("known(" + x + ")", t.known(x), 0);
        }
        for (int x = 0; x < 3; x++) {
            due("known(" + x + ")", t.known(x), 1);
        }
    }

    private static void clockFromNoneToAll() {
        says("Promise 8", "The clock of replica x");
        SharedText t = new SharedText();
        due("clock(2) at first", t.clock(2), 0);
        for (int e = 0; e < 30; e++) {
            t.put(2, 0, 0);
            due("clock(2)", t.clock(2), e + 1);
        }
        due("clock(0) that knows none", t.clock(0), 0);
        t.catchUp(0, 2);
        due("clock(0) that knows all", t.clock(0), 30);
    }

    private static void clockNoReplica() {
        says("Promise 8", "BAD when x is not 0 .. 2");
        SharedText t = typed(0, "a");
        t.catchUp(1, 0);
        t.catchUp(2, 0);
        for (int x : NO_REPLICA) {
            due("clock(" + x + ")", t.clock(x), BAD);
        }
        for (int x = 0; x < 3; x++) {
            due("clock(" + x + ")", t.clock(x), 1);
        }
    }

    private static void lengthFromNoneToAll() {
        says("Promise 9", "The length of x's text");
        SharedText t = new SharedText();
        for (int e = 0; e < 30; e++) {
            due("length(1)", t.length(1), e);
            t.put(1, e / 2, 0);
        }
        due("length(1)", t.length(1), 30);
        SharedText u = typed(1, "ab");
        u.erase(1, 0);
        due("length(1) after an erase", u.length(1), 1);
        u.erase(1, 0);
        due("length(1), empty again", u.length(1), 0);
    }

    private static void lengthNoReplica() {
        says("Promise 9", "BAD when x is not 0 .. 2");
        SharedText t = new SharedText();
        for (int x : NO_REPLICA) {
            due("length(" + x + ")", t.length(x), BAD);
        }
        for (int x = 0; x < 3; x++) {
            due("length(" + x + ")", t.length(x), 0);
        }
    }

    // ---- Promises 10 to 12

    private static void atItsEnds() {
        says("Promise 10", "The symbol at place p of x's text");
        SharedText t = withEvents(30);
        due("at(0, 0)", t.at(0, 0), 0);
        due("at(0, 25)", t.at(0, 25), 25);
        due("at(0, 29), the last place", t.at(0, 29), 3);
    }

    private static void atNoReplica() {
        says("Promise 10", "BAD when x is not 0 .. 2");
        SharedText t = typed(0, "c");
        t.catchUp(1, 0);
        t.catchUp(2, 0);
        for (int x : NO_REPLICA) {
            due("at(" + x + ", 0)", t.at(x, 0), BAD);
        }
        for (int x = 0; x < 3; x++) {
            due("at(" + x + ", 0)", t.at(x, 0), 2);
        }
    }

    private static void atNoPlace() {
        says("Promise 10", "or there is no such place");
        SharedText t = typed(0, "abc");
        t.erase(0, 1);
        for (int p : new int[] {-1, 2, 3, 30, LOW, HIGH}) {
            due("at(0, " + p + ") in a text of 2", t.at(0, p), BAD);
        }
        due("at(0, 1), the last place", t.at(0, 1), 2);
        due("at(1, 0) in an empty text", t.at(1, 0), BAD);
        SharedText full = withEvents(30);
        due("at(0, 30) in a text of 30", full.at(0, 30), BAD);
    }

    private static void madeByItsEnds() {
        says("Promise 11", "The event that put in the symbol at place p of x's text");
        SharedText t = withEvents(30);
        due("madeBy(0, 0)", t.madeBy(0, 0), 0);
        due("madeBy(0, 29), the last place", t.madeBy(0, 29), 29);
    }

    private static void madeByBadAsInAt() {
        says("Promise 11", "BAD as in at");
        SharedText t = typed(0, "abc");
        t.catchUp(1, 0);
        t.erase(0, 1);
        for (int x : NO_REPLICA) {
            due("madeBy(" + x + ", 0)", t.madeBy(x, 0), BAD);
        }
        for (int p : new int[] {-1, 2, 3, 30, LOW, HIGH}) {
            due("madeBy(0, " + p + ") in a text of 2", t.madeBy(0, p), BAD);
        }
        due("madeBy(0, 1), the last place", t.madeBy(0, 1), 2);
        due("madeBy(1, 2), the last place", t.madeBy(1, 2), 2);
        due("madeBy(1, 3), the one behind it", t.madeBy(1, 3), BAD);
        due("madeBy(2, 0) in an empty text", t.madeBy(2, 0), BAD);
        SharedText full = withEvents(30);
        due("madeBy(0, 30) in a text of 30", full.madeBy(0, 30), BAD);
    }

    private static void placeOfItsEnds() {
        says("Promise 12", "The place in x's text of the element that event e put in");
        SharedText t = withEvents(30);
        due("placeOf(0, 0), the first", t.placeOf(0, 0), 0);
        due("placeOf(0, 29), the last", t.placeOf(0, 29), 29);
        SharedText u = new SharedText();
        u.put(0, 0, 0);
        u.put(0, 0, 1);
        due("placeOf(0, 1), the first", u.placeOf(0, 1), 0);
        due("placeOf(0, 0), the last", u.placeOf(0, 0), 1);
    }

    private static void placeOfNoReplica() {
        says("Promise 12", "BAD when x is not 0 .. 2");
        SharedText t = typed(0, "a");
        t.catchUp(1, 0);
        t.catchUp(2, 0);
        for (int x : NO_REPLICA) {
            due("placeOf(" + x + ", 0)", t.placeOf(x, 0), BAD);
        }
        for (int x = 0; x < 3; x++) {
            due("placeOf(" + x + ", 0)", t.placeOf(x, 0), 0);
        }
    }

    private static void placeOfNoPuttingIn() {
        says("Promise 12", "event e is no putting in");
        SharedText t = typed(0, "ab");
        t.erase(0, 0);
        t.learn(1, 0, 0);
        due("placeOf(0, 2), a deletion", t.placeOf(0, 2), BAD);
        due("placeOf(1, 2), a deletion of what it has in its text", t.placeOf(1, 2), BAD);
        due("placeOf(0, 3), the next event", t.placeOf(0, 3), BAD);
        due("placeOf(0, 29)", t.placeOf(0, 29), BAD);
        SharedText full = withEvents(29);
        full.erase(0, 5);
        due("placeOf(0, 29), a deletion as the 30th", full.placeOf(0, 29), BAD);
        for (int e : NO_EVENT) {
            due("placeOf(0, " + e + ") of 3", t.placeOf(0, e), BAD);
            due("placeOf(0, " + e + ") of 30", full.placeOf(0, e), BAD);
        }
    }

    private static void placeOfNotKnown() {
        says("Promise 12", "x does not know it");
        SharedText t = typed(0, "ab");
        t.learn(1, 0, 0);
        due("placeOf(1, 0), known", t.placeOf(1, 0), 0);
        due("placeOf(1, 1), not known", t.placeOf(1, 1), BAD);
        due("placeOf(2, 0), not known", t.placeOf(2, 0), BAD);
        t.learn(1, 0, 1);
        due("placeOf(1, 1), known now", t.placeOf(1, 1), 1);
    }

    private static void placeOfDeleted() {
        says("Promise 12", "or knows it to be deleted");
        SharedText t = typed(0, "ab");
        t.catchUp(1, 0);
        t.erase(0, 0);
        due("placeOf(0, 0), deleted", t.placeOf(0, 0), BAD);
        due("placeOf(0, 1), behind it", t.placeOf(0, 1), 0);
        due("placeOf(1, 0), not known to be deleted", t.placeOf(1, 0), 0);
        due("placeOf(1, 1), behind it", t.placeOf(1, 1), 1);
        t.learn(1, 0, 2);
        due("placeOf(1, 0), known to be deleted", t.placeOf(1, 0), BAD);
        due("placeOf(1, 1), behind it", t.placeOf(1, 1), 0);
    }

    // ---- Promises 13 and 14

    private static void sameEmpty() {
        says("Promise 13", "Whether the texts of x and y are the same");
        SharedText t = new SharedText();
        for (int x = 0; x < 3; x++) {
            for (int y = 0; y < 3; y++) {
                due("same(" + x + ", " + y + "), both empty", t.same(x, y), true);
            }
        }
        t.put(0, 0, 0);
        due("same(0, 1), one empty", t.same(0, 1), false);
        due("same(1, 0), one empty", t.same(1, 0), false);
        due("same(0, 0)", t.same(0, 0), true);
        t.erase(0, 0);
        due("same(0, 1), empty again", t.same(0, 1), true);
    }

    private static void sameSymbolBySymbol() {
        says("Promise 13", "symbol by symbol");
        SharedText t = typed(0, "abc");
        type(t, 1, 0, "abc");
        type(t, 2, 0, "ab");
        due("same(0, 1), other elements", t.same(0, 1), true);
        due("same(0, 2), one longer by the last", t.same(0, 2), false);
        due("same(2, 0), one shorter by the last", t.same(2, 0), false);
        t.put(2, 2, 3);
        due("same(0, 2), the last is another", t.same(0, 2), false);
        t.erase(1, 0);
        t.put(1, 0, 1);
        due("same(0, 1), the first is another", t.same(0, 1), false);
    }

    private static void sameNoReplica() {
        says("Promise 13", "false when one is not 0 .. 2");
        for (String word : new String[] {"", "a"}) {
            SharedText t = typed(0, word);
            for (int v : NO_REPLICA) {
                for (int x = 0; x < 3; x++) {
                    due("same(" + v + ", " + x + ")", t.same(v, x), false);
                    due("same(" + x + ", " + v + ")", t.same(x, v), false);
                }
                for (int w : NO_REPLICA) {
                    due("same(" + v + ", " + w + ")", t.same(v, w), false);
                }
            }
        }
    }

    private static void elementsFromNoneToAll() {
        says("Promise 14", "The number of elements that x knows");
        SharedText t = withEvents(30);
        due("elements(0), all", t.elements(0), 30);
        due("elements(1), none", t.elements(1), 0);
        t.learn(1, 0, 0);
        due("elements(1), one", t.elements(1), 1);
    }

    private static void elementsDeletedToo() {
        says("Promise 14", "deleted ones too");
        SharedText t = typed(0, "ab");
        t.erase(0, 0);
        t.erase(0, 0);
        due("elements(0), all of them deleted", t.elements(0), 2);
        t.learn(1, 0, 0);
        due("elements(1)", t.elements(1), 1);
        t.catchUp(1, 0);
        due("elements(1)", t.elements(1), 2);
    }

    private static void elementsNoReplica() {
        says("Promise 14", "BAD when x is not 0 .. 2");
        SharedText t = typed(0, "a");
        t.catchUp(1, 0);
        t.catchUp(2, 0);
        for (int x : NO_REPLICA) {
            due("elements(" + x + ")", t.elements(x), BAD);
        }
        for (int x = 0; x < 3; x++) {
            due("elements(" + x + ")", t.elements(x), 1);
        }
    }

    // ---- Promise 15

    private static void putBadBeforeFull() {
        says("Promise 15", "put, erase: BAD is tested before FULL.");
        SharedText t = withEvents(30);
        for (int x : NO_REPLICA) {
            due("put(" + x + ", 0, 0)", t.put(x, 0, 0), BAD);
        }
        for (int s : new int[] {-1, 26, LOW, HIGH}) {
            due("put(0, 0, " + s + ")", t.put(0, 0, s), BAD);
        }
        for (int p : new int[] {-1, 31, LOW, HIGH}) {
            due("put(0, " + p + ", 0)", t.put(0, p, 0), BAD);
        }
        due("put(1, 1, 0)", t.put(1, 1, 0), BAD);
        due("put(0, 30, 25)", t.put(0, 30, 25), FULL);
        due("put(1, 0, 0)", t.put(1, 0, 0), FULL);
    }

    private static void eraseBadBeforeFull() {
        says("Promise 15", "put, erase: BAD is tested before FULL.");
        SharedText t = withEvents(30);
        for (int x : NO_REPLICA) {
            due("erase(" + x + ", 0)", t.erase(x, 0), BAD);
        }
        for (int p : new int[] {-1, 30, LOW, HIGH}) {
            due("erase(0, " + p + ")", t.erase(0, p), BAD);
        }
        due("erase(1, 0)", t.erase(1, 0), BAD);
        due("erase(0, 29)", t.erase(0, 29), FULL);
        due("erase(0, 0)", t.erase(0, 0), FULL);
    }

    private static void learnBadBeforeKnown() {
        says("Promise 15", "learn: BAD is tested first (also if x knows the event and y does not)");
        SharedText t = typed(0, "ab");
        t.catchUp(1, 0);
        due("learn(0, 2, 0), x made it, y does not know it", t.learn(0, 2, 0), BAD);
        due("learn(1, 2, 1), x learned it, y does not know it", t.learn(1, 2, 1), BAD);
        due("learn(0, 0, 0), x = y", t.learn(0, 0, 0), BAD);
        due("learn(0, 3, 0), y is no replica", t.learn(0, 3, 0), BAD);
        due("learn(0, -1, 0), y is no replica", t.learn(0, -1, 0), BAD);
        due("learn(0, 1, 0), both know it", t.learn(0, 1, 0), 0);
    }

    private static void learnBadBeforeEarly() {
        says("Promise 15", "learn: BAD is tested first");
        SharedText t = typed(0, "ab");
        due("learn(1, 2, 1), y does not know it", t.learn(1, 2, 1), BAD);
        due("learn(1, 1, 1), x = y", t.learn(1, 1, 1), BAD);
        due("learn(1, 3, 1), y is no replica", t.learn(1, 3, 1), BAD);
        due("learn(3, 0, 1), x is no replica", t.learn(3, 0, 1), BAD);
        due("learn(1, 0, 2), no event", t.learn(1, 0, 2), BAD);
        due("learn(1, 0, 1)", t.learn(1, 0, 1), EARLY);
    }

    // One that knows an event knows all it must know before it, so 0 and EARLY never apply at once;
    // what can be told is that an event that x knew is 0 though y knows more by now than x does.
    private static void learnKnownBeforeEarly() {
        says("Promise 15", "then that x knew it, then EARLY");
        SharedText t = typed(2, "c");
        t.put(0, 0, 0);
        t.learn(1, 0, 1);
        t.catchUp(0, 2);
        due("learn(1, 0, 1), y has learned more since", t.learn(1, 0, 1), 0);
        t.put(0, 0, 1);
        due("learn(1, 0, 1), y has made more since", t.learn(1, 0, 1), 0);
        due("learn(1, 0, 2)", t.learn(1, 0, 2), EARLY);
    }

    // ---- Refused calls, and any arguments

    private static final class Call {
        final String name;
        final ToIntFunction<SharedText> run;

        Call(String name, ToIntFunction<SharedText> run) {
            this.name = name;
            this.run = run;
        }
    }

    private static void add(List<Call> calls, String name, ToIntFunction<SharedText> run) {
        calls.add(new Call(name, run));
    }

    private static int bit(boolean holds) {
        return holds ? 1 : 0;
    }

    /** All that can be asked of an object with so many events, as a list of answers. */
    private static void look(SharedText t, int events, List<Integer> into) {
        into.add(t.events());
        for (int x = 0; x < 3; x++) {
            into.add(t.known(x));
            into.add(t.clock(x));
            into.add(t.elements(x));
            into.add(bit(t.same(x, (x + 1) % 3)));
            int length = t.length(x);
            into.add(length);
            for (int p = 0; p < length; p++) {
                into.add(t.at(x, p));
                into.add(t.madeBy(x, p));
            }
            for (int e = 0; e < events; e++) {
                into.add(t.placeOf(x, e));
            }
        }
    }

    /** Changes that go on from a state, with their answers: they show clocks, stamps and what must be known. */
    private static void goOn(SharedText t, int events, List<Integer> into) {
        for (int x = 0; x < 3; x++) {
            into.add(t.put(x, 0, 20 + x));
            into.add(t.erase(x, 1));
        }
        into.add(t.learn(0, 1, events - 1));
        into.add(t.learn(1, 2, events));
        into.add(t.learn(2, 0, 0));
        int[][] pairs = {{0, 1}, {1, 2}, {2, 0}, {0, 2}, {1, 0}};
        for (int[] pair : pairs) {
            into.add(t.catchUp(pair[0], pair[1]));
        }
    }

    private static void dueNoChange(Consumer<SharedText> state, int events, Call call, int want) {
        SharedText with = new SharedText();
        SharedText without = new SharedText();
        state.accept(with);
        state.accept(without);
        due(call.name, call.run.applyAsInt(with), want);
        List<Integer> answersWith = new ArrayList<>();
        List<Integer> answersWithout = new ArrayList<>();
        look(with, events, answersWith);
        look(without, events, answersWithout);
        due(call.name + " again", call.run.applyAsInt(with), want);
        goOn(with, events, answersWith);
        goOn(without, events, answersWithout);
        look(with, events, answersWith);
        look(without, events, answersWithout);
        if (!answersWith.equals(answersWithout)) {
            wrong++;
            System.out.println(sentence + ": " + call.name + " changed what later calls answer");
        }
        // A state takes at most 30 calls to make; what is answered beyond 512 calls is free.
        due("few enough calls", 30 + 2 + answersWith.size() <= MOST_CALLS, true);
    }

    /** Calls that are BAD in every state with less than 16 elements. */
    private static List<Call> badCalls() {
        List<Call> calls = new ArrayList<>();
        for (int v : NO_REPLICA) {
            add(calls, "put(" + v + ", 0, 1)", t -> t.put(v, 0, 1));
            add(calls, "erase(" + v + ", 0)", t -> t.erase(v, 0));
            add(calls, "learn(" + v + ", 0, 0)", t -> t.learn(v, 0, 0));
            add(calls, "learn(0, " + v + ", 0)", t -> t.learn(0, v, 0));
            add(calls, "catchUp(" + v + ", 0)", t -> t.catchUp(v, 0));
            add(calls, "catchUp(0, " + v + ")", t -> t.catchUp(0, v));
            add(calls, "clock(" + v + ")", t -> t.clock(v));
            add(calls, "length(" + v + ")", t -> t.length(v));
            add(calls, "at(" + v + ", 0)", t -> t.at(v, 0));
            add(calls, "madeBy(" + v + ", 0)", t -> t.madeBy(v, 0));
            add(calls, "placeOf(" + v + ", 0)", t -> t.placeOf(v, 0));
            add(calls, "elements(" + v + ")", t -> t.elements(v));
        }
        for (int x = 0; x < 3; x++) {
            int r = x;
            for (int p : new int[] {-1, 16, 30, LOW, HIGH}) {
                add(calls, "put(" + r + ", " + p + ", 1)", t -> t.put(r, p, 1));
                add(calls, "erase(" + r + ", " + p + ")", t -> t.erase(r, p));
                add(calls, "at(" + r + ", " + p + ")", t -> t.at(r, p));
                add(calls, "madeBy(" + r + ", " + p + ")", t -> t.madeBy(r, p));
            }
            for (int s : new int[] {-1, 26, LOW, HIGH}) {
                add(calls, "put(" + r + ", 0, " + s + ")", t -> t.put(r, 0, s));
            }
            for (int e : NO_EVENT) {
                add(calls, "learn(" + r + ", " + (r + 1) % 3 + ", " + e + ")", t -> t.learn(r, (r + 1) % 3, e));
                add(calls, "placeOf(" + r + ", " + e + ")", t -> t.placeOf(r, e));
            }
            add(calls, "learn(" + r + ", " + r + ", 0)", t -> t.learn(r, r, 0));
            add(calls, "catchUp(" + r + ", " + r + ")", t -> t.catchUp(r, r));
        }
        return calls;
    }

    private static void allBadChangeNothing(Consumer<SharedText> state, int events) {
        for (Call call : badCalls()) {
            dueNoChange(state, events, call, BAD);
        }
        for (int v : NO_REPLICA) {
            dueNoChange(state, events, new Call("known(" + v + ")", t -> t.known(v)), 0);
            dueNoChange(state, events, new Call("same(" + v + ", 0)", t -> bit(t.same(v, 0))), 0);
            dueNoChange(state, events, new Call("same(0, " + v + ")", t -> bit(t.same(0, v))), 0);
        }
    }

    private static void refusedInEmpty() {
        says("Not promised", "Nothing is promised beyond the answers and state changes described above");
        Consumer<SharedText> empty = t -> { };
        allBadChangeNothing(empty, 0);
        dueNoChange(empty, 0, new Call("put(0, 1, 0)", t -> t.put(0, 1, 0)), BAD);
        dueNoChange(empty, 0, new Call("erase(0, 0)", t -> t.erase(0, 0)), BAD);
        dueNoChange(empty, 0, new Call("learn(0, 1, 0)", t -> t.learn(0, 1, 0)), BAD);
        dueNoChange(empty, 0, new Call("catchUp(0, 1)", t -> t.catchUp(0, 1)), 0);
    }

    /** 0 knows 0, 1, 2, 3, 6, its text is "yac"; 1 knows 0, 1, 4, "xab"; 2 knows 5, "z". */
    private static void makeBusy(SharedText t) {
        type(t, 0, 0, "ab");
        t.catchUp(1, 0);
        t.put(0, 2, 2);
        t.erase(0, 1);
        t.put(1, 0, 23);
        t.put(2, 0, 25);
        t.put(0, 0, 24);
    }

    private static void refusedInBusy() {
        says("Not promised", "Nothing is promised beyond the answers and state changes described above");
        Consumer<SharedText> busy = BoundaryTest::makeBusy;
        allBadChangeNothing(busy, 7);
        dueNoChange(busy, 7, new Call("put(0, 4, 0)", t -> t.put(0, 4, 0)), BAD);
        dueNoChange(busy, 7, new Call("put(2, 2, 0)", t -> t.put(2, 2, 0)), BAD);
        dueNoChange(busy, 7, new Call("erase(0, 3)", t -> t.erase(0, 3)), BAD);
        dueNoChange(busy, 7, new Call("erase(2, 1)", t -> t.erase(2, 1)), BAD);
        dueNoChange(busy, 7, new Call("learn(1, 0, 7)", t -> t.learn(1, 0, 7)), BAD);
        dueNoChange(busy, 7, new Call("learn(1, 0, 5)", t -> t.learn(1, 0, 5)), BAD);
        dueNoChange(busy, 7, new Call("learn(0, 1, 2)", t -> t.learn(0, 1, 2)), BAD);
        dueNoChange(busy, 7, new Call("learn(1, 0, 1)", t -> t.learn(1, 0, 1)), 0);
        dueNoChange(busy, 7, new Call("learn(0, 1, 0)", t -> t.learn(0, 1, 0)), 0);
        dueNoChange(busy, 7, new Call("learn(1, 0, 3)", t -> t.learn(1, 0, 3)), EARLY);
        dueNoChange(busy, 7, new Call("learn(1, 0, 6)", t -> t.learn(1, 0, 6)), EARLY);
        dueNoChange(busy, 7, new Call("learn(2, 1, 4)", t -> t.learn(2, 1, 4)), EARLY);
        dueNoChange(busy, 7, new Call("placeOf(0, 1)", t -> t.placeOf(0, 1)), BAD);
        dueNoChange(busy, 7, new Call("placeOf(0, 3)", t -> t.placeOf(0, 3)), BAD);
    }

    /** 30 events: ten puts, of which replica 0 deletes five, five puts and deletions at 1, five puts at 2. */
    private static void makeFull(SharedText t) {
        for (int i = 0; i < 5; i++) {
            t.put(0, i, i);
            t.put(0, 0, 10 + i);
            t.erase(0, 1);
            t.put(1, 0, 20);
            t.erase(1, 0);
            t.put(2, 0, 22);
        }
    }

    private static void refusedInFull() {
        says("Not promised", "Nothing is promised beyond the answers and state changes described above");
        Consumer<SharedText> full = BoundaryTest::makeFull;
        SharedText made = new SharedText();
        makeFull(made);
        due("events()", made.events(), 30);
        allBadChangeNothing(full, 30);
        for (int x = 0; x < 3; x++) {
            int r = x;
            dueNoChange(full, 30, new Call("put(" + r + ", 0, 1)", t -> t.put(r, 0, 1)), FULL);
        }
        dueNoChange(full, 30, new Call("put(0, 5, 25)", t -> t.put(0, 5, 25)), FULL);
        dueNoChange(full, 30, new Call("put(0, 6, 25)", t -> t.put(0, 6, 25)), BAD);
        dueNoChange(full, 30, new Call("erase(0, 0)", t -> t.erase(0, 0)), FULL);
        dueNoChange(full, 30, new Call("erase(0, 4)", t -> t.erase(0, 4)), FULL);
        dueNoChange(full, 30, new Call("erase(0, 5)", t -> t.erase(0, 5)), BAD);
        dueNoChange(full, 30, new Call("erase(1, 0)", t -> t.erase(1, 0)), BAD);
        dueNoChange(full, 30, new Call("learn(1, 2, 29)", t -> t.learn(1, 2, 29)), EARLY);
        dueNoChange(full, 30, new Call("learn(2, 1, 29)", t -> t.learn(2, 1, 29)), BAD);
    }

    // What these calls must answer is for the tests above.
    private static void anyArgumentsInAnyState() {
        says("LANGUAGE.md, rule 7", "No call may ever throw or fail to end, for any arguments in any state");
        int[] values = {LOW, LOW + 1, -33, -32, -31, -2, -1, 0, 1, 2, 3, 4, 25, 26, 29, 30, 31, 32, 33, HIGH - 1, HIGH};
        List<Consumer<SharedText>> states = List.of(t -> { }, BoundaryTest::makeBusy, BoundaryTest::makeFull);
        // One object goes through them all: its 512 calls are soon over, which frees its answers alone.
        SharedText old = new SharedText();
        for (int a : values) {
            for (int b : values) {
                for (int c : values) {
                    for (Consumer<SharedText> state : states) {
                        SharedText t = new SharedText();
                        state.accept(t);
                        callAll(t, a, b, c);
                    }
                    callAll(old, a, b, c);
                }
            }
        }
    }

    private static void callAll(SharedText t, int a, int b, int c) {
        t.put(a, b, c);
        t.learn(a, b, c);
        t.erase(a, b);
        t.catchUp(a, b);
        t.at(a, b);
        t.madeBy(a, b);
        t.placeOf(a, b);
        t.same(a, b);
        t.known(a);
        t.clock(a);
        t.length(a);
        t.elements(a);
        t.events();
    }
}
