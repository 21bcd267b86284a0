import java.util.ArrayList;
import java.util.List;
import java.util.function.IntSupplier;
import java.util.function.Supplier;
import java.util.function.ToIntFunction;

// Each sentence of the document that names a boundary case has a test of its own, which bears the
// sentence as its name. No object is used for more than 512 calls: later answers are free.
public final class BoundaryTest {
    private static final int BAD_ARG = -1000000001;
    private static final int FULL = -1000000002;
    private static final int NONE = -1000000003;
    private static final int NEEDED = -1000000004;
    private static final int MOST_CALLS = 512;
    private static final int MIN = Integer.MIN_VALUE;
    private static final int MAX = Integer.MAX_VALUE;

    // Beside the neighbours of 0 to 2, numbers that come to 0 to 2 if they are cut to few bits.
    private static final int[] NO_STORES = {-1, 3, 4, -3, 64, 256, 65536, MIN, MIN + 1, MAX};
    // Numbers that are no patch and no place of any object; a shift takes 64 and -64 as 0.
    private static final int[] NEVER = {-1, -2, 61, 63, 64, 65, 128, -63, -64, 256, 65536, NONE, MIN, MAX};

    private static String sentence = "";
    private static int wrong = 0;

    private static void report(String what) {
        wrong++;
        System.out.println(sentence + ": " + what);
    }

    /** A run of calls on one new object, each with the answer that is due as its last argument. */
    private static final class Run {
        private final PatchGraphs on = new PatchGraphs();
        private int calls = 0;

        private Run due(String call, int want, IntSupplier ask) {
            calls++;
            if (calls > MOST_CALLS) {
                report("the test is wrong: " + call + " is call " + calls);
            }
            try {
                int got = ask.getAsInt();
                if (got != want) {
                    report("call " + calls + ", " + call + ", answered " + got + ", due is " + want);
                }
            } catch (Throwable thrown) {
                report("call " + calls + ", " + call + ", threw " + thrown);
            }
            return this;
        }

        Run put(int s, int k, int x, int want) {
            return due("put(" + s + ", " + k + ", " + x + ")", want, () -> on.put(s, k, x));
        }

        Run strike(int s, int k, int want) {
            return due("strike(" + s + ", " + k + ")", want, () -> on.strike(s, k));
        }

        Run pull(int s, int t, int want) {
            return due("pull(" + s + ", " + t + ")", want, () -> on.pull(s, t));
        }

        Run pick(int p, int t, int want) {
            return due("pick(" + p + ", " + t + ")", want, () -> on.pick(p, t));
        }

        Run drop(int s, int p, int want) {
            return due("drop(" + s + ", " + p + ")", want, () -> on.drop(s, p));
        }

        Run made(int want) {
            return due("made()", want, on::made);
        }

        Run patches(int s, int want) {
            return due("patches(" + s + ")", want, () -> on.patches(s));
        }

        Run has(int s, int p, boolean want) {
            return due("has(" + s + ", " + p + ")", of(want), () -> of(on.has(s, p)));
        }

        Run patch(int p, int what, int want) {
            return due("patch(" + p + ", " + what + ")", want, () -> on.patch(p, what));
        }

        Run needs(int p, int q, boolean want) {
            return due("needs(" + p + ", " + q + ")", of(want), () -> of(on.needs(p, q)));
        }

        Run needed(int p, int want) {
            return due("needed(" + p + ")", want, () -> on.needed(p));
        }

        Run loose(int s, int want) {
            return due("loose(" + s + ")", want, () -> on.loose(s));
        }

        Run length(int s, int want) {
            return due("length(" + s + ")", want, () -> on.length(s));
        }

        Run line(int s, int k, int want) {
            return due("line(" + s + ", " + k + ")", want, () -> on.line(s, k));
        }

        Run content(int s, int k, int want) {
            return due("content(" + s + ", " + k + ")", want, () -> on.content(s, k));
        }

        Run conflicts(int s, int want) {
            return due("conflicts(" + s + ")", want, () -> on.conflicts(s));
        }

        Run rings(int s, int want) {
            return due("rings(" + s + ")", want, () -> on.rings(s));
        }

        Run before(int s, int a, int b, boolean want) {
            return due("before(" + s + ", " + a + ", " + b + ")", of(want), () -> of(on.before(s, a, b)));
        }

        Run agree(int s, int t, boolean want) {
            return due("agree(" + s + ", " + t + ")", of(want), () -> of(on.agree(s, t)));
        }

        Run alike(int s, int t, boolean want) {
            return due("alike(" + s + ", " + t + ")", of(want), () -> of(on.alike(s, t)));
        }

        Run lines(int s, int... wanted) {
            length(s, wanted.length);
            for (int k = 0; k < wanted.length; k++) {
                line(s, k, wanted[k]);
            }
            return this;
        }

        Run whole(int p, int puts, int first, int second) {
            return patch(p, 0, puts).patch(p, 1, first).patch(p, 2, second);
        }
    }

    /** The answer of a yes-or-no call as a number, so that one list holds all calls. */
    private static int of(boolean answer) {
        return answer ? 1 : 0;
    }

    private static Run fresh() {
        return new Run();
    }

    /** Store 0 with the lines 0 to n - 1 in this order; each needs all before it. */
    private static Run chain(int n) {
        Run r = fresh();
        for (int i = 0; i < n; i++) {
            r.put(0, i, 10 * i, i);
        }
        return r;
    }

    private static Run full() {
        return chain(60);
    }

    /** Store 0 with the lines 0 to n - 1, none of which needs or leads to another one. */
    private static Run wide(int n) {
        Run r = fresh();
        for (int i = 0; i < n; i++) {
            r.put(1, 0, 10 * i, i).pull(1, 0, 1).drop(1, i, 0);
        }
        return r;
    }

    /** Store 2 with the lines 0 to 4, all of which lead to each other: 0, 2, 1, 4, 3, 0. */
    private static Run ring() {
        return fresh().put(0, 0, 100, 0).put(1, 0, 101, 1).pull(1, 0, 1).put(0, 1, 102, 2)
            .pick(0, 2, 1).put(2, 0, 103, 3).pick(1, 2, 1).put(2, 1, 104, 4).pull(0, 2, 1);
    }

    /** The ring grown to 60 lines, each put in between the lines 0 and 1 of it. */
    private static Run greatRing() {
        Run r = ring();
        for (int i = 5; i < 60; i++) {
            r.put(2, 1, i, i);
        }
        return r;
    }

    /** Store 0: the lines 0, 2, and 1 struck out by 3. Store 1: 0 and 4 before it. Store 2: none. */
    private static Run mixed() {
        return chain(3).strike(0, 1, 3).pick(0, 1, 1).put(1, 0, 40, 4);
    }

    // What it is

    private static void only512Calls() {
        Run r = fresh();
        for (int i = 0; i < 59; i++) {
            r.put(0, i, i, i);
        }
        for (int i = 0; i < 112; i++) {
            r.put(0, -1, 0, BAD_ARG).strike(1, 0, NONE).drop(0, 0, NEEDED).length(0, 59);
        }
        r.put(0, 59, 590, 59).put(0, 60, 0, FULL).length(0, 60).content(0, 59, 590).pull(0, 2, 60);
        if (r.calls != MOST_CALLS) {
            report("the test is wrong: it comes to " + r.calls + " calls");
        }
    }

    private static void anyOrder() {
        int[] order = {0, 1, 2, 3, 4, 5};
        takeInEachOrder(order, 0);
    }

    /** By swaps, each order of the places from at on. */
    private static void takeInEachOrder(int[] order, int at) {
        if (at == order.length) {
            // Line 1 is struck out by 3; 2, 4 and 5 were put in in other stores.
            Run r = fresh().put(0, 0, 7, 0).put(0, 1, 8, 1).pull(0, 1, 2).put(1, 1, 9, 2)
                .strike(0, 1, 3).put(0, 0, 5, 4).put(2, 0, 6, 5).pull(1, 0, 1).pull(2, 0, 1)
                .lines(0, 4, 0, 2, 5).drop(2, 5, 0);
            for (int p : order) {
                r.on.pick(p, 2);
                r.calls++;
            }
            r.agree(0, 2, true).lines(2, 4, 0, 2, 5).alike(0, 2, true).conflicts(2, 3);
            return;
        }
        for (int i = at; i < order.length; i++) {
            swap(order, at, i);
            takeInEachOrder(order, at + 1);
            swap(order, at, i);
        }
    }

    private static void swap(int[] order, int i, int j) {
        int kept = order[i];
        order[i] = order[j];
        order[j] = kept;
    }

    // Terms

    private static void numberedFrom0() {
        fresh().put(2, 0, 5, 0).strike(2, 1, NONE).put(2, 2, 5, BAD_ARG).put(0, 0, 5, 1)
            .strike(2, 0, 2).drop(2, 2, 1).drop(2, 0, 0).drop(0, 1, 0)
            // Each call makes a patch, and no number is given twice.
            .put(2, 0, 5, 3).put(1, 0, 5, 4).strike(2, 0, 5).made(6);
    }

    private static void atMost60() {
        full().made(60).put(0, 0, 0, FULL).put(1, 0, 0, FULL).put(2, 0, 0, FULL).strike(0, 0, FULL).made(60);
        // The 60th may strike out, and patches of all stores count.
        Run r = fresh();
        for (int i = 0; i < 57; i++) {
            r.put(i % 3, 0, i, i);
        }
        r.strike(0, 0, 57).strike(1, 0, 58).strike(2, 0, 59).made(60);
        for (int s = 0; s < 3; s++) {
            r.put(s, 0, 0, FULL).strike(s, 0, FULL).patches(s, 20).length(s, 18);
        }
        // A patch that was lost was made all the same.
        Run w = wide(59);
        w.drop(0, 0, 58).put(2, 0, 0, 59).drop(2, 59, 0).put(2, 0, 0, FULL).patches(2, 0).made(60);
        // Taking patches makes none, so it goes on.
        w.pick(59, 2, 1).pull(0, 2, 58).pick(0, 2, 1).patches(2, 60).length(2, 60);
    }

    private static void numberAndContent() {
        int[] contents = {0, 1, -1, MIN, MIN + 1, MAX, BAD_ARG, FULL, NONE, NEEDED};
        Run r = fresh();
        for (int i = 0; i < contents.length; i++) {
            r.put(0, 0, contents[i], i);
        }
        for (int i = 0; i < contents.length; i++) {
            int k = contents.length - 1 - i;
            r.line(0, k, i).content(0, k, contents[i]);
        }
        // A line whose content is NONE is there nevertheless.
        fresh().put(0, 0, NONE, 0).put(1, 0, BAD_ARG, 1).alike(0, 1, false).strike(0, 0, 2).alike(0, 2, true);
    }

    private static void topAndEnd() {
        fresh().put(0, 0, 5, 0).whole(0, 1, NONE, NONE).put(0, 0, 5, 1).whole(1, 1, NONE, 0)
            .put(0, 2, 5, 2).whole(2, 1, 0, NONE).put(0, 1, 5, 3).whole(3, 1, 1, 0)
            // With all lines struck out, the text is empty: top and end again.
            .strike(0, 0, 4).strike(0, 0, 5).strike(0, 0, 6).strike(0, 0, 7)
            .put(0, 0, 5, 8).whole(8, 1, NONE, NONE).needed(8, 0);
    }

    private static void restsAndNeeds() {
        // 3 is put in between 1 and 2, which need 0 both; 4 strikes 3 out.
        Run r = fresh().put(0, 0, 5, 0).put(0, 0, 5, 1).put(0, 2, 5, 2).strike(0, 1, 3)
            .put(0, 1, 5, 4).strike(0, 1, 5);
        int[][] wanted = {{}, {0}, {0}, {0}, {0, 1, 2}, {0, 1, 2, 4}};
        for (int p = 0; p < wanted.length; p++) {
            r.needed(p, wanted[p].length);
            for (int q = 0; q < wanted.length; q++) {
                boolean due = false;
                for (int one : wanted[p]) {
                    due |= one == q;
                }
                r.needs(p, q, due);
            }
        }
    }

    private static void withAllThatItNeeds() {
        Run r = mixed().drop(0, 1, NEEDED).drop(0, 0, NEEDED).drop(1, 0, NEEDED);
        r.pick(3, 2, 3).has(2, 0, true).has(2, 1, true).has(2, 2, false).has(2, 3, true);
        r.drop(2, 1, NEEDED).drop(2, 3, 2).drop(2, 0, NEEDED).drop(2, 1, 1).drop(2, 0, 0);
        full().pick(59, 1, 60).drop(1, 0, NEEDED).drop(1, 58, NEEDED).drop(1, 59, 59).drop(1, 58, 58);
    }

    private static void struckByItsPatches() {
        chain(2).pull(0, 1, 2).strike(0, 0, 2).lines(0, 1).lines(1, 0, 1)
            // Two patches of a store may strike the same line out; it comes back with the last.
            .strike(1, 0, 3).pull(0, 1, 1).lines(1, 1).drop(1, 3, 3).lines(1, 1).drop(1, 2, 2).lines(1, 0, 1);
    }

    private static void leadsByPatchesOfTheStore() {
        // In store 0 the way from 0 to 1 goes by 2 alone, so without patch 2 there's none.
        Run r = fresh().put(0, 0, 5, 0).put(1, 0, 5, 1).pull(1, 0, 1).before(0, 0, 1, false)
            .put(0, 1, 5, 2).before(0, 0, 1, true).before(0, 0, 2, true).before(0, 2, 1, true);
        // A way goes through a struck line as well.
        r.strike(0, 1, 3).lines(0, 0, 1).before(0, 0, 1, true).before(0, 0, 2, true).conflicts(0, 0);
        r.pull(0, 2, 4).before(2, 0, 1, true).drop(2, 3, 3).drop(2, 2, 2).before(2, 0, 1, false).conflicts(2, 1);
        // The top and the end are no lines: no way goes by them.
        wide(2).before(0, 0, 1, false).before(0, 1, 0, false);
        // The longest way there is.
        full().before(0, 0, 59, true).before(0, 59, 0, false);
    }

    private static void beforeOneWayOnly() {
        Run r = ring();
        for (int a = 0; a < 5; a++) {
            for (int b = 0; b < 5; b++) {
                r.before(2, a, b, false);
            }
        }
        // 5 stands behind the ring, to which it doesn't lead, and 6 before it.
        r.put(2, 5, 5, 5).put(2, 0, 5, 6);
        for (int a = 0; a < 5; a++) {
            r.before(2, a, 5, true).before(2, 5, a, false).before(2, 6, a, true).before(2, a, 6, false);
        }
        r.before(2, 6, 5, true).drop(2, 2, 6).before(2, 1, 0, true).before(2, 0, 1, false);
    }

    private static void textInOrder() {
        fresh().lines(0).lines(1).lines(2);
        chain(1).lines(0, 0).strike(0, 0, 1).lines(0);
        // Of lines that nothing is before, the least number goes first.
        wide(4).lines(0, 0, 1, 2, 3);
        // 0 waits for 3, which is before it, and so goes behind 1 and 2.
        fresh().put(0, 0, 5, 0).put(1, 0, 5, 1).put(2, 0, 5, 2).put(0, 0, 5, 3)
            .pull(1, 0, 1).pull(2, 0, 1).lines(0, 1, 2, 3, 0)
            // 3 is struck out: it is not in the text and holds 0 back no more.
            .strike(0, 2, 4).lines(0, 0, 1, 2).before(0, 3, 0, true);
        // A line that is free again goes before greater ones that were free all the time.
        fresh().put(0, 0, 5, 0).put(1, 0, 5, 1).put(1, 0, 5, 2).put(2, 0, 5, 3)
            .pull(1, 0, 2).pull(2, 0, 1).lines(0, 0, 2, 1, 3);
        // The lines of a ring hold each other back no more than lines without a way.
        ring().lines(2, 0, 1, 2, 3, 4).put(2, 0, 5, 5).lines(2, 5, 0, 1, 2, 3, 4)
            .put(2, 6, 5, 6).lines(2, 5, 0, 1, 2, 3, 4, 6);
    }

    private static void twoDifferentInConflict() {
        chain(1).conflicts(0, 0);
        chain(2).conflicts(0, 0);
        wide(2).conflicts(0, 1).strike(0, 0, 2).conflicts(0, 0);
        ring().conflicts(2, 10);
    }

    /** All calls with a store, with one that is none and else with what would be refused as well. */
    private static void noSuchStore() {
        for (int s : NO_STORES) {
            noSuchStoreAt(mixed(), s, 5);
            noSuchStoreAt(full(), s, 60);
            noSuchStoreAt(fresh(), s, 0);
        }
    }

    private static void noSuchStoreAt(Run r, int s, int made) {
        r.put(s, 0, 5, BAD_ARG).put(s, -1, 5, BAD_ARG).put(s, 61, 5, BAD_ARG);
        r.strike(s, 0, BAD_ARG).strike(s, -1, BAD_ARG).strike(s, 60, BAD_ARG);
        r.pick(0, s, BAD_ARG).pick(-1, s, BAD_ARG).pick(made, s, BAD_ARG);
        r.drop(s, 0, BAD_ARG).drop(s, -1, BAD_ARG).drop(s, made, BAD_ARG);
        r.patches(s, BAD_ARG).loose(s, BAD_ARG).length(s, BAD_ARG).conflicts(s, BAD_ARG).rings(s, BAD_ARG);
        r.line(s, 0, BAD_ARG).line(s, -1, BAD_ARG).line(s, 60, BAD_ARG);
        r.content(s, 0, BAD_ARG).content(s, -1, BAD_ARG).content(s, 60, BAD_ARG);
        r.has(s, 0, false).has(s, -1, false).before(s, 0, 2, false).before(s, 0, 0, false).before(s, -1, made, false);
        r.pull(s, s, BAD_ARG).agree(s, s, false).alike(s, s, false);
        for (int t : new int[] {0, 1, 2, -1, 3}) {
            r.pull(s, t, BAD_ARG).pull(t, s, BAD_ARG).agree(s, t, false).agree(t, s, false)
                .alike(s, t, false).alike(t, s, false);
        }
        r.made(made);
    }

    private static void stores0To2() {
        for (int s = 0; s < 3; s++) {
            Run r = fresh();
            r.put(s, 0, 5, 0).patches(s, 1).has(s, 0, true).loose(s, 1).length(s, 1).line(s, 0, 0)
                .content(s, 0, 5).conflicts(s, 0).rings(s, 0).put(s, 1, 6, 1).before(s, 0, 1, true)
                .strike(s, 0, 2).drop(s, 2, 2).agree(s, s, true).alike(s, s, true);
            for (int t = 0; t < 3; t++) {
                if (t != s) {
                    r.patches(t, 0).agree(s, t, false).alike(t, s, false).pick(0, t, 1)
                        .pull(s, t, 1).agree(t, s, true).alike(s, t, true);
                }
            }
        }
    }

    /** A code, or a number or content; the greatest number is that of the pairs of 60 lines. */
    private static boolean mayBe(int answer) {
        return answer >= 0 && answer <= 1770 || answer >= NEEDED && answer <= BAD_ARG;
    }

    private static final int[] ODD = {MIN, MIN + 1, NEEDED, NONE, FULL, BAD_ARG, -65, -64, -61, -60, -2, -1,
        0, 1, 2, 3, 4, 5, 31, 32, 33, 57, 58, 59, 60, 61, 62, 63, 64, 65, 127, 128, 256, 65536, MAX - 1, MAX};

    private static void neverThrows() {
        List<Supplier<Run>> states = List.of(BoundaryTest::fresh, BoundaryTest::mixed, BoundaryTest::ring,
            BoundaryTest::full, BoundaryTest::greatRing);
        for (Supplier<Run> state : states) {
            Run r = state.get();
            for (int a : ODD) {
                for (int b : ODD) {
                    if (r.calls + 20 > MOST_CALLS) {
                        r = state.get();
                    }
                    callAll(r, a, b);
                }
            }
        }
    }

    private static void callAll(Run r, int a, int b) {
        PatchGraphs x = r.on;
        List<IntSupplier> calls = new ArrayList<>(List.of(
            () -> of(x.has(a, b)), () -> of(x.needs(a, b)), () -> of(x.agree(a, b)), () -> of(x.alike(a, b)),
            () -> of(x.before(2, a, b)), () -> of(x.before(a, 0, b)), () -> x.patch(a, b), () -> x.line(a, b),
            () -> x.content(a, b), () -> x.strike(a, b), () -> x.pull(a, b), () -> x.pick(a, b),
            () -> x.drop(a, b), () -> x.put(a, b, 7)));
        if (a == b) {
            calls.addAll(List.of(() -> x.needed(a), () -> x.patches(a), () -> x.loose(a), () -> x.length(a),
                () -> x.conflicts(a), () -> x.rings(a)));
        }
        for (int i = 0; i < calls.size(); i++) {
            r.calls++;
            try {
                int answer = calls.get(i).getAsInt();
                if (!mayBe(answer)) {
                    report("call " + i + " of " + a + " and " + b + " answered " + answer);
                }
            } catch (Throwable thrown) {
                report("call " + i + " of " + a + " and " + b + " threw " + thrown);
            }
        }
    }

    /** A call that is refused, with the code that is due. */
    private record Refused(String call, int code, ToIntFunction<PatchGraphs> on) {
    }

    private static void refusedChangesNothing() {
        List<Refused> inMixed = new ArrayList<>();
        for (int s : NO_STORES) {
            inMixed.add(new Refused("put(" + s + ", 0, 7)", BAD_ARG, x -> x.put(s, 0, 7)));
            inMixed.add(new Refused("strike(" + s + ", 0)", BAD_ARG, x -> x.strike(s, 0)));
            inMixed.add(new Refused("pull(" + s + ", 2)", BAD_ARG, x -> x.pull(s, 2)));
            inMixed.add(new Refused("pull(0, " + s + ")", BAD_ARG, x -> x.pull(0, s)));
            inMixed.add(new Refused("pick(4, " + s + ")", BAD_ARG, x -> x.pick(4, s)));
            inMixed.add(new Refused("drop(" + s + ", 4)", BAD_ARG, x -> x.drop(s, 4)));
        }
        for (int n : NEVER) {
            inMixed.add(new Refused("put(0, " + n + ", 7)", BAD_ARG, x -> x.put(0, n, 7)));
            inMixed.add(new Refused("strike(0, " + n + ")", NONE, x -> x.strike(0, n)));
            inMixed.add(new Refused("pick(" + n + ", 2)", NONE, x -> x.pick(n, 2)));
            inMixed.add(new Refused("drop(0, " + n + ")", NONE, x -> x.drop(0, n)));
        }
        for (int s = 0; s < 3; s++) {
            int store = s;
            inMixed.add(new Refused("pull(" + s + ", " + s + ")", BAD_ARG, x -> x.pull(store, store)));
        }
        inMixed.add(new Refused("put(0, 3, 7)", BAD_ARG, x -> x.put(0, 3, 7)));
        inMixed.add(new Refused("put(2, 1, 7)", BAD_ARG, x -> x.put(2, 1, 7)));
        inMixed.add(new Refused("strike(0, 2)", NONE, x -> x.strike(0, 2)));
        inMixed.add(new Refused("strike(2, 0)", NONE, x -> x.strike(2, 0)));
        inMixed.add(new Refused("pick(5, 2)", NONE, x -> x.pick(5, 2)));
        inMixed.add(new Refused("drop(0, 5)", NONE, x -> x.drop(0, 5)));
        inMixed.add(new Refused("drop(0, 4)", NONE, x -> x.drop(0, 4)));
        inMixed.add(new Refused("drop(2, 0)", NONE, x -> x.drop(2, 0)));
        inMixed.add(new Refused("drop(0, 0)", NEEDED, x -> x.drop(0, 0)));
        inMixed.add(new Refused("drop(0, 1)", NEEDED, x -> x.drop(0, 1)));
        inMixed.add(new Refused("drop(1, 0)", NEEDED, x -> x.drop(1, 0)));
        for (Refused refused : inMixed) {
            changesNothing(BoundaryTest::mixed, 5, refused);
        }
        List<Refused> inFull = List.of(
            new Refused("put(0, 0, 7)", FULL, x -> x.put(0, 0, 7)),
            new Refused("put(0, 60, 7)", FULL, x -> x.put(0, 60, 7)),
            new Refused("put(1, 0, 7)", FULL, x -> x.put(1, 0, 7)),
            new Refused("put(0, 61, 7)", BAD_ARG, x -> x.put(0, 61, 7)),
            new Refused("strike(0, 0)", FULL, x -> x.strike(0, 0)),
            new Refused("strike(0, 59)", FULL, x -> x.strike(0, 59)),
            new Refused("strike(0, 60)", NONE, x -> x.strike(0, 60)),
            new Refused("pick(60, 1)", NONE, x -> x.pick(60, 1)),
            new Refused("drop(0, 60)", NONE, x -> x.drop(0, 60)),
            new Refused("drop(0, 58)", NEEDED, x -> x.drop(0, 58)));
        for (Refused refused : inFull) {
            changesNothing(BoundaryTest::full, 60, refused);
        }
    }

    /** Asks all there is to ask, with and without the refused call before, on new objects. */
    private static void changesNothing(Supplier<Run> state, int made, Refused refused) {
        List<ToIntFunction<PatchGraphs>> questions = questions(made);
        int at = 0;
        while (at < questions.size()) {
            Run plain = state.get();
            Run other = state.get();
            other.due(refused.call(), refused.code(), () -> refused.on().applyAsInt(other.on));
            for (; at < questions.size() && other.calls < MOST_CALLS - 4; at++) {
                plain.calls++;
                int want = questions.get(at).applyAsInt(plain.on);
                int question = at;
                other.due("question " + at + " after " + refused.call(), want,
                    () -> questions.get(question).applyAsInt(other.on));
            }
            for (int s = 0; s < 3; s++) {
                other.put(s, 0, 9, plain.on.put(s, 0, 9));
            }
        }
    }

    private static List<ToIntFunction<PatchGraphs>> questions(int made) {
        List<ToIntFunction<PatchGraphs>> all = new ArrayList<>();
        all.add(x -> x.made());
        for (int n = 0; n <= made; n++) {
            int p = n;
            all.add(x -> x.patch(p, 0));
            all.add(x -> x.patch(p, 1));
            all.add(x -> x.patch(p, 2));
            all.add(x -> x.needed(p));
            // In a great object the neighbours will do.
            for (int m = made > 10 ? n - 1 : 0; m <= (made > 10 ? n + 1 : made); m++) {
                int q = m;
                all.add(x -> of(x.needs(p, q)));
                all.add(x -> of(x.before(0, p, q)));
                all.add(x -> of(x.before(1, p, q)));
                all.add(x -> of(x.before(2, p, q)));
            }
        }
        for (int store = 0; store < 3; store++) {
            int s = store;
            all.add(x -> x.patches(s));
            all.add(x -> x.loose(s));
            all.add(x -> x.length(s));
            all.add(x -> x.conflicts(s));
            all.add(x -> x.rings(s));
            all.add(x -> of(x.agree(s, (s + 1) % 3)));
            all.add(x -> of(x.alike(s, (s + 1) % 3)));
            for (int n = 0; n <= made; n++) {
                int k = n;
                all.add(x -> of(x.has(s, k)));
                all.add(x -> x.line(s, k));
                all.add(x -> x.content(s, k));
            }
        }
        return all;
    }

    private static void constants() {
        fresh().due("BAD_ARG", -1000000001, () -> PatchGraphs.BAD_ARG).due("FULL", -1000000002, () -> PatchGraphs.FULL)
            .due("NONE", -1000000003, () -> PatchGraphs.NONE).due("NEEDED", -1000000004, () -> PatchGraphs.NEEDED);
    }

    // Promises 1 to 6: the calls that make a change

    private static void newObject() {
        Run r = fresh().made(0);
        for (int s = 0; s < 3; s++) {
            r.patches(s, 0).loose(s, 0).length(s, 0).conflicts(s, 0).rings(s, 0).has(s, 0, false)
                .line(s, 0, NONE).content(s, 0, NONE).before(s, 0, 0, false);
        }
        r.patch(0, 0, NONE).needed(0, NONE).needs(0, 0, false).pull(0, 1, 0).pick(0, 0, NONE)
            .drop(0, 0, NONE).strike(0, 0, NONE).put(0, 1, 5, BAD_ARG).made(0).put(0, 0, 5, 0);
        // What one object has made isn't in another one.
        Run used = full();
        fresh().made(0).patches(0, 0).length(0, 0).put(0, 0, 5, 0);
        used.made(60);
    }

    private static void putPlace() {
        fresh().put(0, -1, 5, BAD_ARG).put(0, 1, 5, BAD_ARG).put(0, 0, 5, 0);
        Run r = chain(3).put(0, 4, 5, BAD_ARG);
        for (int k : NEVER) {
            r.put(0, k, 5, BAD_ARG).put(1, k, 5, BAD_ARG);
        }
        r.put(0, 3, 5, 3).whole(3, 1, 2, NONE).put(0, 0, 5, 4).whole(4, 1, NONE, 0).lines(0, 4, 0, 1, 2, 3);
        // The length is that of the text, which struck lines aren't in, and of this store.
        chain(3).strike(0, 2, 3).put(0, 3, 5, BAD_ARG).put(0, 2, 5, 4).whole(4, 1, 1, NONE);
        chain(3).put(1, 1, 5, BAD_ARG).put(1, 0, 5, 3).whole(3, 1, NONE, NONE).put(1, 1, 5, 4).whole(4, 1, 3, NONE);
    }

    private static void putUpperAndLower() {
        Run r = full();
        for (int p = 0; p < 60; p++) {
            r.whole(p, 1, p == 0 ? NONE : p - 1, NONE);
        }
        chain(3).put(0, 1, 5, 3).whole(3, 1, 0, 1).put(0, 2, 5, 4).whole(4, 1, 3, 1).lines(0, 0, 3, 4, 1, 2);
        // Beside the struck line 1: its neighbours of the text.
        chain(3).strike(0, 1, 3).put(0, 1, 5, 4).whole(4, 1, 0, 2).lines(0, 0, 4, 2);
        // In between two lines in conflict, and then they are in order.
        wide(2).put(0, 1, 5, 2).whole(2, 1, 0, 1).lines(0, 0, 2, 1).conflicts(0, 0);
    }

    private static void putOrder() {
        full().put(0, 61, 5, BAD_ARG).put(0, -1, 5, BAD_ARG).put(1, 1, 5, BAD_ARG).put(0, MAX, 5, BAD_ARG)
            .put(0, MIN, 5, BAD_ARG).put(3, 0, 5, BAD_ARG).put(-1, 61, 5, BAD_ARG).made(60);
    }

    private static void putFull() {
        Run r = chain(59).made(59).put(0, 59, 5, 59).made(60);
        for (int k = 0; k <= 60; k += 20) {
            r.put(0, k, 5, FULL);
        }
        r.put(1, 0, 5, FULL).put(2, 0, 5, FULL).drop(0, 59, 59).put(0, 59, 5, FULL).made(60).length(0, 59);
    }

    private static void putNumber() {
        fresh().put(0, 0, 5, 0).has(0, 0, true).has(1, 0, false).put(1, 0, 5, 1).has(1, 1, true).has(0, 1, false)
            .put(2, 0, 5, 2).has(2, 2, true).lines(0, 0).lines(1, 1).lines(2, 2);
    }

    private static void strikeNone() {
        fresh().strike(0, 0, NONE).strike(1, 0, NONE).strike(2, 0, NONE).strike(0, -1, NONE).strike(0, 1, NONE);
        Run r = chain(3).strike(0, 3, NONE).strike(1, 0, NONE);
        for (int k : NEVER) {
            r.strike(0, k, NONE);
        }
        r.strike(0, 2, 3).strike(0, 2, NONE).strike(0, 0, 4).strike(0, 1, NONE).strike(0, 0, 5)
            .strike(0, 0, NONE).length(0, 0).patches(0, 6);
    }

    private static void strikeOrder() {
        full().strike(0, 60, NONE).strike(0, -1, NONE).strike(1, 0, NONE).strike(0, MAX, NONE)
            .strike(0, MIN, NONE).strike(3, 0, BAD_ARG).strike(-1, 60, BAD_ARG).made(60);
    }

    private static void strikeFull() {
        full().strike(0, 0, FULL).strike(0, 59, FULL).length(0, 60).made(60);
        chain(59).strike(0, 58, 59).strike(0, 57, FULL).strike(0, 58, NONE).length(0, 58).made(60);
    }

    private static void strikeNumber() {
        chain(3).pull(0, 1, 3).strike(1, 0, 3).whole(3, 0, 0, NONE).has(1, 3, true).has(0, 3, false)
            .lines(0, 0, 1, 2).lines(1, 1, 2).strike(0, 2, 4).whole(4, 0, 2, NONE).lines(0, 0, 1);
    }

    private static void pullSame() {
        for (int s = 0; s < 3; s++) {
            fresh().pull(s, s, BAD_ARG);
            mixed().pull(s, s, BAD_ARG);
            full().pull(s, s, BAD_ARG).made(60);
        }
    }

    private static void pullHowMany() {
        fresh().pull(0, 1, 0).pull(2, 0, 0);
        full().pull(1, 0, 0).patches(0, 60).patches(1, 0).pull(0, 1, 60).patches(0, 60).patches(1, 60)
            .pull(0, 1, 0).pull(1, 0, 0).drop(1, 59, 59).pull(0, 1, 1).agree(0, 1, true);
        // Only those that it did not have, and the first store keeps its own.
        mixed().pull(0, 1, 3).patches(1, 5).patches(0, 4).has(0, 4, false).pull(1, 0, 1).agree(0, 1, true);
    }

    private static void pickNone() {
        fresh().pick(0, 0, NONE).pick(-1, 1, NONE);
        Run r = mixed().pick(5, 2, NONE);
        for (int p : NEVER) {
            r.pick(p, 2, NONE).pick(p, 0, NONE);
        }
        r.patches(2, 0).patches(0, 4);
        full().pick(60, 1, NONE).pick(59, 1, 60).pick(60, 1, NONE).pick(64, 2, NONE).pick(-1, 2, NONE).patches(2, 0);
    }

    private static void pickHowMany() {
        full().pick(0, 1, 1).pick(0, 1, 0).pick(1, 1, 1).pick(59, 1, 58).pick(59, 1, 0).pick(30, 1, 0)
            .pick(58, 2, 59).patches(2, 59).has(2, 59, false).pick(59, 0, 0).patches(0, 60);
        // A patch that no store has any more is still there.
        chain(2).drop(0, 1, 1).drop(0, 0, 0).pick(1, 2, 2).lines(2, 0, 1).pick(0, 1, 1).lines(1, 0);
    }

    private static void dropNone() {
        fresh().drop(0, 0, NONE).drop(2, -1, NONE);
        Run r = mixed().drop(0, 5, NONE).drop(0, 4, NONE).drop(2, 0, NONE).drop(1, 3, NONE);
        for (int p : NEVER) {
            r.drop(0, p, NONE);
        }
        r.drop(0, 3, 3).drop(0, 3, NONE).patches(0, 3);
        full().drop(0, 60, NONE).drop(0, 64 + 59, NONE).drop(1, 59, NONE).drop(0, 59, 59).drop(0, 59, NONE);
        // Not had comes before needed: 0 is needed in store 0 alone.
        chain(2).pick(0, 1, 1).drop(1, 0, 0).drop(1, 0, NONE).drop(0, 0, NEEDED);
    }

    private static void dropNeeded() {
        Run r = full();
        for (int p = 0; p < 59; p++) {
            r.drop(0, p, NEEDED);
        }
        r.patches(0, 60);
        // Needed as upper line, as lower line, and as the line struck out.
        chain(2).drop(0, 0, NEEDED).drop(0, 1, 1).drop(0, 0, 0);
        fresh().put(0, 0, 5, 0).put(0, 0, 5, 1).drop(0, 0, NEEDED).drop(0, 1, 1).drop(0, 0, 0);
        fresh().put(0, 0, 5, 0).strike(0, 0, 1).drop(0, 0, NEEDED).drop(0, 1, 1).drop(0, 0, 0);
        // By any patch of the store, not the last one alone: 2 needs 1, and 3 doesn't.
        chain(3).put(0, 0, 5, 3).drop(0, 1, NEEDED).drop(0, 0, NEEDED).drop(0, 2, 3).drop(0, 1, 2);
        // By a patch of this store: that store 0 needs it is no matter in store 1.
        chain(2).pick(0, 1, 1).drop(0, 0, NEEDED).drop(1, 0, 0).drop(0, 0, NEEDED);
    }

    private static void dropNumber() {
        Run r = full().pull(0, 1, 60);
        for (int p = 59; p >= 0; p--) {
            r.drop(0, p, p);
        }
        r.patches(0, 0).patches(1, 60).length(0, 0).length(1, 60).made(60).drop(0, 0, NONE).pull(1, 0, 60);
    }

    // Promises 7 to 21: the calls that ask

    private static void madeCount() {
        Run r = fresh().made(0);
        for (int i = 0; i < 60; i++) {
            r.put(i % 3, 0, i, i).made(i + 1);
        }
        r.put(0, 0, 5, FULL).made(60).drop(2, 59, 19).made(60).pick(59, 1, 20).made(60);
    }

    private static void patchesCount() {
        fresh().patches(0, 0).patches(1, 0).patches(2, 0);
        full().patches(0, 60).patches(1, 0).pull(0, 2, 60).patches(2, 60).drop(2, 59, 59).patches(2, 59);
        // Those that strike out count too.
        chain(1).strike(0, 0, 1).patches(0, 2).length(0, 0);
    }

    private static void hasPatch() {
        fresh().has(0, 0, false).has(2, 0, false);
        Run r = mixed().has(0, 5, false);
        for (int p : NEVER) {
            r.has(0, p, false);
        }
        for (int p = 0; p < 5; p++) {
            r.has(0, p, p < 4).has(1, p, p == 0 || p == 4).has(2, p, false);
        }
        full().has(0, 0, true).has(0, 59, true).has(0, 60, false).has(0, -1, false).has(0, 64, false)
            .has(1, 59, false).drop(0, 59, 59).has(0, 59, false);
    }

    private static void patchWhat() {
        int[] bad = {-1, 3, 4, -2, 64, 256, BAD_ARG, NONE, MIN, MAX};
        Run r = mixed();
        for (int what : bad) {
            r.patch(0, what, BAD_ARG).patch(3, what, BAD_ARG).patch(5, what, BAD_ARG).patch(-1, what, BAD_ARG);
        }
        fresh().patch(0, 3, BAD_ARG).patch(0, -1, BAD_ARG);
        full().patch(60, 3, BAD_ARG).patch(59, 3, BAD_ARG).patch(64, -1, BAD_ARG);
    }

    private static void patchNone() {
        fresh().whole(0, NONE, NONE, NONE);
        Run r = mixed().whole(5, NONE, NONE, NONE);
        for (int p : NEVER) {
            r.whole(p, NONE, NONE, NONE);
        }
        full().whole(60, NONE, NONE, NONE).whole(59, 1, 58, NONE).whole(-1, NONE, NONE, NONE);
    }

    private static void patchTopEndStruck() {
        mixed().whole(0, 1, NONE, NONE).whole(1, 1, 0, NONE).whole(2, 1, 1, NONE).whole(3, 0, 1, NONE)
            .whole(4, 1, NONE, 0)
            // A line of number 0 is told from the top, as upper and as struck line.
            .strike(1, 1, 5).whole(5, 0, 0, NONE)
            // A patch stays what it is when no store has it.
            .drop(0, 3, 3).whole(3, 0, 1, NONE);
    }

    private static void needsNoSuch() {
        fresh().needs(0, 0, false).needs(0, 1, false);
        Run r = mixed().needs(5, 0, false).needs(3, 5, false).needs(5, 5, false);
        for (int n : NEVER) {
            r.needs(n, 0, false).needs(3, n, false).needs(n, n, false);
        }
        full().needs(59, 60, false).needs(60, 0, false).needs(59, 64, false).needs(59, -64, false)
            .needs(64 + 59, 0, false).needs(59, -5, false);
    }

    private static void needsPatch() {
        // No patch needs itself or a later one.
        Run r = full();
        for (int p = 0; p < 60; p += 59) {
            for (int q = 0; q < 60; q++) {
                r.needs(p, q, q < p).needs(q, p, p < q);
            }
        }
        // What a patch needs is its own, whatever the stores have now.
        chain(2).drop(0, 1, 1).drop(0, 0, 0).needs(1, 0, true).needs(0, 1, false);
    }

    private static void neededCount() {
        Run r = full();
        for (int p = 0; p < 60; p++) {
            r.needed(p, p);
        }
        Run w = wide(60);
        for (int p = 0; p < 60; p++) {
            w.needed(p, 0);
        }
        // One that two others both need counts once.
        fresh().put(0, 0, 5, 0).put(0, 0, 5, 1).put(0, 2, 5, 2).strike(0, 1, 3).put(0, 1, 5, 4).needed(4, 3);
    }

    private static void neededNone() {
        fresh().needed(0, NONE).needed(-1, NONE);
        Run r = mixed().needed(5, NONE).needed(4, 1);
        for (int p : NEVER) {
            r.needed(p, NONE);
        }
        full().needed(60, NONE).needed(59, 59).needed(64, NONE).needed(-1, NONE);
    }

    private static void looseCount() {
        fresh().loose(0, 0).loose(1, 0).loose(2, 0);
        chain(1).loose(0, 1).loose(1, 0);
        full().loose(0, 1).drop(0, 59, 59).loose(0, 1).pick(0, 1, 1).loose(1, 1);
        wide(60).loose(0, 60).loose(1, 0).drop(0, 7, 59).loose(0, 59);
        chain(3).put(0, 0, 5, 3).loose(0, 2);
        // Needed as lower line and by one that strikes out; what other stores have is no matter.
        mixed().loose(0, 2).loose(1, 1).pick(1, 2, 2).loose(2, 1);
        chain(1).strike(0, 0, 1).loose(0, 1).drop(0, 1, 1).loose(0, 1).drop(0, 0, 0).loose(0, 0);
    }

    private static void lengthCount() {
        fresh().length(0, 0).length(1, 0).length(2, 0);
        full().length(0, 60).length(1, 0);
        greatRing().length(2, 60);
        // As many struck lines as there may be.
        Run r = chain(30);
        for (int i = 0; i < 30; i++) {
            r.strike(0, 0, 30 + i).length(0, 29 - i);
        }
        r.length(0, 0).patches(0, 60).strike(0, 0, NONE).put(0, 0, 5, FULL);
    }

    private static void lineNone() {
        fresh().line(0, 0, NONE).line(0, -1, NONE).line(2, 1, NONE);
        Run r = mixed().line(0, 0, 0).line(0, 1, 2).line(0, 2, NONE).line(2, 0, NONE);
        for (int k : NEVER) {
            r.line(0, k, NONE);
        }
        full().line(0, 0, 0).line(0, 59, 59).line(0, 60, NONE).line(0, -1, NONE).line(0, 64, NONE).line(1, 0, NONE);
        chain(1).strike(0, 0, 1).line(0, 0, NONE).drop(0, 1, 1).line(0, 0, 0);
    }

    private static void contentNone() {
        fresh().content(0, 0, NONE).content(0, -1, NONE).content(2, 1, NONE);
        Run r = mixed().content(0, 0, 0).content(0, 1, 20).content(0, 2, NONE).content(2, 0, NONE);
        for (int k : NEVER) {
            r.content(0, k, NONE);
        }
        full().content(0, 0, 0).content(0, 59, 590).content(0, 60, NONE).content(0, -1, NONE).content(0, 64, NONE)
            .content(1, 0, NONE);
        chain(1).strike(0, 0, 1).content(0, 0, NONE).drop(0, 1, 1).content(0, 0, 0);
    }

    private static void conflictsCount() {
        fresh().conflicts(0, 0).conflicts(1, 0).conflicts(2, 0);
        full().conflicts(0, 0);
        // 60 lines have 1770 pairs, each counted once.
        wide(60).conflicts(0, 1770).rings(0, 0).conflicts(1, 0).drop(0, 59, 59).conflicts(0, 1711);
        greatRing().conflicts(2, 1770);
        // Struck lines aren't of the text.
        wide(3).conflicts(0, 3).strike(0, 1, 3).conflicts(0, 1).strike(0, 1, 4).conflicts(0, 0)
            .strike(0, 0, 5).conflicts(0, 0);
    }

    private static void ringsCount() {
        fresh().rings(0, 0).rings(1, 0).rings(2, 0);
        chain(1).rings(0, 0);
        full().rings(0, 0);
        greatRing().rings(2, 1770).rings(0, 0).rings(1, 0);
        // Struck lines aren't of the text, but the ring goes through them.
        ring().rings(2, 10).strike(2, 0, 5).rings(2, 6).strike(2, 0, 6).rings(2, 3).strike(2, 0, 7).rings(2, 1)
            .strike(2, 0, 8).rings(2, 0).conflicts(2, 0);
        // A pair in conflict without a way is no ring; nor is a line before or behind the ring.
        ring().put(2, 0, 5, 5).put(2, 6, 5, 6).rings(2, 10).conflicts(2, 10).put(1, 1, 5, 7).pull(1, 2, 1)
            .rings(2, 10).conflicts(2, 11).drop(2, 7, 7).drop(2, 2, 6).rings(2, 0);
    }

    private static void beforeNoLines() {
        fresh().before(0, 0, 0, false).before(0, 0, 1, false);
        Run r = mixed();
        for (int n : NEVER) {
            r.before(0, n, 0, false).before(0, 0, n, false).before(0, n, n, false);
        }
        // 3 strikes out and is no line; 4 is one of store 1 alone; 5 isn't made.
        r.before(0, 3, 1, false).before(0, 1, 3, false).before(0, 0, 3, false).before(0, 4, 0, false)
            .before(0, 0, 4, false).before(1, 4, 0, true).before(1, 0, 1, false).before(0, 0, 1, true)
            .before(0, 2, 5, false).before(0, 5, 2, false).before(2, 0, 1, false);
        full().before(0, 0, 60, false).before(0, -1, 59, false).before(0, 0, 64 + 1, false)
            .before(0, 58, 59, true).drop(0, 59, 59).before(0, 58, 59, false).before(0, 0, 59, false);
    }

    private static void beforeItself() {
        Run r = mixed().pull(1, 2, 2);
        for (int a = 0; a < 6; a++) {
            r.before(0, a, a, false).before(1, a, a, false).before(2, a, a, false);
        }
        // Struck lines are lines of the store.
        r.before(0, 0, 1, true).before(0, 1, 2, true).before(0, 1, 0, false).before(0, 0, 2, true);
    }

    private static void agreeSame() {
        fresh().agree(0, 1, true).agree(1, 2, true).agree(2, 0, true).agree(1, 1, true);
        full().agree(0, 0, true).agree(0, 1, false).agree(1, 0, false).agree(1, 2, true).pull(0, 1, 60)
            .agree(0, 1, true).drop(1, 59, 59).agree(0, 1, false).agree(1, 0, false).drop(0, 59, 59).agree(1, 0, true);
        // As many patches, but others; and patches that are like each other are two.
        fresh().put(0, 0, 5, 0).put(1, 0, 5, 1).agree(0, 1, false).pull(0, 1, 1).agree(0, 1, false).pull(1, 0, 1)
            .agree(0, 1, true);
        // The same text is not enough.
        chain(1).pull(0, 1, 1).strike(0, 0, 1).strike(1, 0, 2).alike(0, 1, true).agree(0, 1, false);
    }

    private static void alikeContents() {
        fresh().alike(0, 1, true).alike(1, 2, true).alike(2, 2, true);
        // The empty text of struck lines, and that of no patches.
        chain(1).alike(0, 1, false).alike(1, 0, false).strike(0, 0, 1).alike(0, 1, true).alike(1, 0, true);
        // One is the beginning of the other one.
        chain(2).pick(0, 1, 1).alike(0, 1, false).alike(1, 0, false).put(1, 1, 10, 2).alike(0, 1, true);
        // Other lines, the same contents; the same contents in another order.
        fresh().put(0, 0, 5, 0).put(0, 1, 6, 1).put(1, 0, 6, 2).put(1, 1, 5, 3).alike(0, 1, false)
            .put(2, 0, 6, 4).put(2, 0, 5, 5).alike(0, 2, true).alike(1, 2, false).agree(0, 2, false);
        // The last of 30 lines differs.
        Run r = fresh();
        for (int i = 0; i < 29; i++) {
            r.put(0, i, i, 2 * i).put(1, i, i, 2 * i + 1);
        }
        r.alike(0, 1, true).put(0, 29, MIN, 58).put(1, 29, MAX, 59).alike(0, 1, false).length(0, 30).length(1, 30);
        full().pull(0, 1, 60).alike(0, 1, true).alike(0, 0, true).drop(1, 59, 59).alike(0, 1, false);
    }

    private static void test(String name, Runnable body) {
        sentence = name;
        body.run();
    }

    private static void testTerms() {
        test("An object is used for at most 512 calls", BoundaryTest::only512Calls);
        test("what a store shows depends only on which patches it has", BoundaryTest::anyOrder);
        test("Patches are numbered from 0 on", BoundaryTest::numberedFrom0);
        test("at most 60 are made", BoundaryTest::atMost60);
        test("A line has the number of the patch, and a content, an int", BoundaryTest::numberAndContent);
        test("an UPPER line, or the TOP, and a LOWER line, or the END", BoundaryTest::topAndEnd);
        test("A patch RESTS ON; it NEEDS these and all that they need", BoundaryTest::restsAndNeeds);
        test("a set of patches that has, with each patch, all that it needs", BoundaryTest::withAllThatItNeeds);
        test("a line is STRUCK if one of its patches strikes it out", BoundaryTest::struckByItsPatches);
        test("LEADS TO, by steps of patches of the store", BoundaryTest::leadsByPatchesOfTheStore);
        test("BEFORE if it leads to it, and that one does not lead to it", BoundaryTest::beforeOneWayOnly);
        test("The TEXT is the list of its lines that are not struck, in this order", BoundaryTest::textInOrder);
        test("Two different lines of the text are in CONFLICT", BoundaryTest::twoDifferentInConflict);
        test("a store that is not 0 to 2 answers BAD_ARG (or false) before anything else", BoundaryTest::noSuchStore);
        test("There are three STORES, 0 to 2", BoundaryTest::stores0To2);
        test("No call ever throws", BoundaryTest::neverThrows);
        test("A refused call answers the code named and changes nothing", BoundaryTest::refusedChangesNothing);
        test("The constants", BoundaryTest::constants);
    }

    private static void testChanges() {
        test("1: No patch is made", BoundaryTest::newObject);
        test("2: k from 0 to the length, k out of its range answers BAD_ARG", BoundaryTest::putPlace);
        test("2: its upper line is at place k - 1 (the top), its lower at place k (the end)", BoundaryTest::putUpperAndLower);
        test("2: tested in this order", BoundaryTest::putOrder);
        test("2: FULL", BoundaryTest::putFull);
        test("2: otherwise the number of the patch", BoundaryTest::putNumber);
        test("3: NONE if there is none", BoundaryTest::strikeNone);
        test("3: tested in this order", BoundaryTest::strikeOrder);
        test("3: FULL", BoundaryTest::strikeFull);
        test("3: otherwise the number of the patch", BoundaryTest::strikeNumber);
        test("4: BAD_ARG if s = t", BoundaryTest::pullSame);
        test("4: otherwise how many it did not have", BoundaryTest::pullHowMany);
        test("5: NONE if there is no patch p", BoundaryTest::pickNone);
        test("5: otherwise how many of them it did not have", BoundaryTest::pickHowMany);
        test("6: NONE if it does not have it", BoundaryTest::dropNone);
        test("6: NEEDED", BoundaryTest::dropNeeded);
        test("6: otherwise the number of its patches", BoundaryTest::dropNumber);
    }

    private static void testQuestions() {
        test("7: the number of patches made", BoundaryTest::madeCount);
        test("8: the number of patches of store s", BoundaryTest::patchesCount);
        test("9: whether store s has patch p", BoundaryTest::hasPatch);
        test("10: what not 0 to 2 answers BAD_ARG, before NONE", BoundaryTest::patchWhat);
        test("10: NONE if there is no patch p", BoundaryTest::patchNone);
        test("10: NONE for the top, the end, and the lower line of one that strikes out", BoundaryTest::patchTopEndStruck);
        test("11: false if there are no such patches", BoundaryTest::needsNoSuch);
        test("11: whether patch p needs patch q", BoundaryTest::needsPatch);
        test("12: how many patches patch p needs", BoundaryTest::neededCount);
        test("12: NONE if there is none", BoundaryTest::neededNone);
        test("13: patches of store s that none of its patches needs", BoundaryTest::looseCount);
        test("14: the number of lines of the text", BoundaryTest::lengthCount);
        test("15: NONE if there is none", BoundaryTest::lineNone);
        test("16: NONE if there is none", BoundaryTest::contentNone);
        test("17: the number of pairs in conflict", BoundaryTest::conflictsCount);
        test("18: the number of these whose lines lead to each other", BoundaryTest::ringsCount);
        test("19: false if they are not lines of it", BoundaryTest::beforeNoLines);
        test("19: a line is not before itself, and struck lines are lines", BoundaryTest::beforeItself);
        test("20: the same patches", BoundaryTest::agreeSame);
        test("21: the same contents in the same order", BoundaryTest::alikeContents);
    }

    public static void main(String[] args) {
        testTerms();
        testChanges();
        testQuestions();
        System.out.println(wrong == 0 ? "all answers are as due" : wrong + " answers are not as due");
        if (wrong != 0) {
            System.exit(1);
        }
    }
}
