// For each promise, calls on new objects with the answers that the document asks for.
public final class PromisesTest {
    private static final int BAD_ARG = -1000000001;
    private static final int FULL = -1000000002;
    private static final int NONE = -1000000003;
    private static final int NEEDED = -1000000004;
    private static final int[] NO_STORES = {-1, 3, 4, 64, -61, Integer.MIN_VALUE, Integer.MAX_VALUE};
    private static final int[] NO_NUMBERS = {-1, 60, 63, 64, -64, BAD_ARG, NONE, Integer.MIN_VALUE, Integer.MAX_VALUE};

    private static int wrong = 0;
    private static String part = "";

    private static void due(String call, int got, int want) {
        if (got != want) {
            wrong++;
            System.out.println(part + ": " + call + " answered " + got + ", due is " + want);
        }
    }

    private static void due(String call, boolean got, boolean want) {
        if (got != want) {
            wrong++;
            System.out.println(part + ": " + call + " answered " + got + ", due is " + want);
        }
    }

    private static void dueLines(PatchGraphs x, int s, int... lines) {
        due("length(" + s + ")", x.length(s), lines.length);
        for (int k = 0; k < lines.length; k++) {
            due("line(" + s + ", " + k + ")", x.line(s, k), lines[k]);
        }
        due("line(" + s + ", " + lines.length + ")", x.line(s, lines.length), NONE);
    }

    private static void duePatch(PatchGraphs x, int p, int puts, int first, int second) {
        due("patch(" + p + ", 0)", x.patch(p, 0), puts);
        due("patch(" + p + ", 1)", x.patch(p, 1), first);
        due("patch(" + p + ", 2)", x.patch(p, 2), second);
    }

    /** Store s has just these patches. */
    private static void duePatches(PatchGraphs x, int s, int... wanted) {
        due("patches(" + s + ")", x.patches(s), wanted.length);
        for (int p : wanted) {
            due("has(" + s + ", " + p + ")", x.has(s, p), true);
        }
    }

    /** Store 0 with the lines 0, 1, 2 in this order: 0 is put first, 1 at the end, 2 at the end. */
    private static PatchGraphs threeLines() {
        PatchGraphs x = new PatchGraphs();
        x.put(0, 0, 10);
        x.put(0, 1, 20);
        x.put(0, 2, 30);
        return x;
    }

    /**
     * Store 0: 0 leads over 2 to 1. Store 1: only 1. Store 2: 1 leads over 4 to 3, and 3 to 0;
     * there patch 2 is wanting, and with it the lines 0 to 4 lead to each other.
     */
    private static PatchGraphs almostRing() {
        PatchGraphs x = new PatchGraphs();
        due("put(0, 0, 100)", x.put(0, 0, 100), 0);
        due("put(1, 0, 101)", x.put(1, 0, 101), 1);
        due("pull(1, 0)", x.pull(1, 0), 1);
        due("put(0, 1, 102)", x.put(0, 1, 102), 2);
        due("pick(0, 2)", x.pick(0, 2), 1);
        due("put(2, 0, 103)", x.put(2, 0, 103), 3);
        due("pick(1, 2)", x.pick(1, 2), 1);
        due("put(2, 1, 104)", x.put(2, 1, 104), 4);
        return x;
    }

    private static PatchGraphs full() {
        PatchGraphs x = new PatchGraphs();
        for (int i = 0; i < 60; i++) {
            due("put(0, " + i + ", " + i + ")", x.put(0, i, i), i);
        }
        return x;
    }

    private static void constants() {
        due("BAD_ARG", PatchGraphs.BAD_ARG, BAD_ARG);
        due("FULL", PatchGraphs.FULL, FULL);
        due("NONE", PatchGraphs.NONE, NONE);
        due("NEEDED", PatchGraphs.NEEDED, NEEDED);
    }

    private static void noSuchStore() {
        PatchGraphs x = threeLines();
        for (int s : NO_STORES) {
            due("put(" + s + ")", x.put(s, 0, 0), BAD_ARG);
            due("strike(" + s + ", 99)", x.strike(s, 99), BAD_ARG);
            due("pull(" + s + ", 0)", x.pull(s, 0), BAD_ARG);
            due("pull(0, " + s + ")", x.pull(0, s), BAD_ARG);
            due("pull(" + s + ", " + s + ")", x.pull(s, s), BAD_ARG);
            due("pick(0, " + s + ")", x.pick(0, s), BAD_ARG);
            due("pick(99, " + s + ")", x.pick(99, s), BAD_ARG);
            due("drop(" + s + ", 2)", x.drop(s, 2), BAD_ARG);
            due("drop(" + s + ", 99)", x.drop(s, 99), BAD_ARG);
            due("patches(" + s + ")", x.patches(s), BAD_ARG);
            due("has(" + s + ", 0)", x.has(s, 0), false);
            due("loose(" + s + ")", x.loose(s), BAD_ARG);
            due("length(" + s + ")", x.length(s), BAD_ARG);
            due("line(" + s + ", 0)", x.line(s, 0), BAD_ARG);
            due("line(" + s + ", 99)", x.line(s, 99), BAD_ARG);
            due("content(" + s + ", 0)", x.content(s, 0), BAD_ARG);
            due("content(" + s + ", 99)", x.content(s, 99), BAD_ARG);
            due("conflicts(" + s + ")", x.conflicts(s), BAD_ARG);
            due("rings(" + s + ")", x.rings(s), BAD_ARG);
            due("before(" + s + ", 0, 1)", x.before(s, 0, 1), false);
            due("agree(" + s + ", 0)", x.agree(s, 0), false);
            due("agree(0, " + s + ")", x.agree(0, s), false);
            due("agree(" + s + ", " + s + ")", x.agree(s, s), false);
            due("alike(" + s + ", 0)", x.alike(s, 0), false);
            due("alike(0, " + s + ")", x.alike(0, s), false);
            due("alike(" + s + ", " + s + ")", x.alike(s, s), false);
        }
        due("made()", x.made(), 3);
        duePatches(x, 0, 0, 1, 2);
        due("patches(1)", x.patches(1), 0);
        due("patches(2)", x.patches(2), 0);
    }

    private static void newObject() {
        PatchGraphs x = new PatchGraphs();
        due("made()", x.made(), 0);
        for (int s = 0; s < 3; s++) {
            due("patches(" + s + ")", x.patches(s), 0);
            due("loose(" + s + ")", x.loose(s), 0);
            dueLines(x, s);
            due("content(" + s + ", 0)", x.content(s, 0), NONE);
            due("conflicts(" + s + ")", x.conflicts(s), 0);
            due("rings(" + s + ")", x.rings(s), 0);
            due("has(" + s + ", 0)", x.has(s, 0), false);
            due("before(" + s + ", 0, 0)", x.before(s, 0, 0), false);
            due("drop(" + s + ", 0)", x.drop(s, 0), NONE);
            due("strike(" + s + ", 0)", x.strike(s, 0), NONE);
            due("pick(0, " + s + ")", x.pick(0, s), NONE);
            due("put(" + s + ", 1, 0)", x.put(s, 1, 0), BAD_ARG);
        }
        due("pull(0, 1)", x.pull(0, 1), 0);
        due("agree(0, 1)", x.agree(0, 1), true);
        due("alike(1, 2)", x.alike(1, 2), true);
        due("patch(0, 0)", x.patch(0, 0), NONE);
        due("needed(0)", x.needed(0), NONE);
        due("needs(0, 0)", x.needs(0, 0), false);
        due("made()", x.made(), 0);
        PatchGraphs used = threeLines();
        due("made() of another object", used.made(), 3);
        due("made() of this object", x.made(), 0);
    }

    private static void put() {
        PatchGraphs x = threeLines();
        due("put(0, 4, 1)", x.put(0, 4, 1), BAD_ARG);
        for (int k : NO_NUMBERS) {
            due("put(0, " + k + ", 1)", x.put(0, k, 1), BAD_ARG);
        }
        due("made()", x.made(), 3);
        duePatches(x, 0, 0, 1, 2);
        due("put(0, 0, 40)", x.put(0, 0, 40), 3);
        due("put(0, 2, 50)", x.put(0, 2, 50), 4);
        due("put(0, 5, 60)", x.put(0, 5, 60), 5);
        dueLines(x, 0, 3, 0, 4, 1, 2, 5);
        duePatch(x, 0, 1, NONE, NONE);
        duePatch(x, 1, 1, 0, NONE);
        duePatch(x, 3, 1, NONE, 0);
        duePatch(x, 4, 1, 0, 1);
        duePatch(x, 5, 1, 2, NONE);
        duePatches(x, 0, 0, 1, 2, 3, 4, 5);
        due("patches(1)", x.patches(1), 0);

        // Places are those of the text, which doesn't have the struck line.
        PatchGraphs y = threeLines();
        due("strike(0, 1)", y.strike(0, 1), 3);
        due("put(0, 3, 1)", y.put(0, 3, 1), BAD_ARG);
        due("put(0, 1, 1)", y.put(0, 1, 1), 4);
        duePatch(y, 4, 1, 0, 2);
        dueLines(y, 0, 0, 4, 2);
        due("conflicts(0)", y.conflicts(0), 0);
        due("before(0, 4, 1)", y.before(0, 4, 1), false);
        due("before(0, 1, 4)", y.before(0, 1, 4), false);

        // The same call in two stores makes two patches.
        PatchGraphs z = new PatchGraphs();
        due("put(0, 0, 7)", z.put(0, 0, 7), 0);
        due("put(1, 0, 7)", z.put(1, 0, 7), 1);
        due("put(2, 0, 7)", z.put(2, 0, 7), 2);
        due("made()", z.made(), 3);
        due("pull(0, 1)", z.pull(0, 1), 1);
        dueLines(z, 1, 0, 1);

        PatchGraphs f = full();
        due("put(0, 61, 0)", f.put(0, 61, 0), BAD_ARG);
        due("put(0, -1, 0)", f.put(0, -1, 0), BAD_ARG);
        due("put(0, 60, 0)", f.put(0, 60, 0), FULL);
        due("put(0, 0, 0)", f.put(0, 0, 0), FULL);
        due("put(1, 1, 0)", f.put(1, 1, 0), BAD_ARG);
        due("put(1, 0, 0)", f.put(1, 0, 0), FULL);
        due("made()", f.made(), 60);
        due("patches(0)", f.patches(0), 60);
        due("patches(1)", f.patches(1), 0);
        due("length(0)", f.length(0), 60);
        due("drop(0, 59)", f.drop(0, 59), 59);
        due("put(0, 59, 0)", f.put(0, 59, 0), FULL);
    }

    private static void strike() {
        PatchGraphs x = threeLines();
        due("strike(0, 3)", x.strike(0, 3), NONE);
        for (int k : NO_NUMBERS) {
            due("strike(0, " + k + ")", x.strike(0, k), NONE);
        }
        due("strike(1, 0)", x.strike(1, 0), NONE);
        due("made()", x.made(), 3);
        due("pull(0, 1)", x.pull(0, 1), 3);
        due("strike(0, 2)", x.strike(0, 2), 3);
        due("strike(0, 2)", x.strike(0, 2), NONE);
        due("strike(0, 0)", x.strike(0, 0), 4);
        dueLines(x, 0, 1);
        dueLines(x, 1, 0, 1, 2);
        duePatch(x, 3, 0, 2, NONE);
        duePatch(x, 4, 0, 0, NONE);
        // Two patches may strike the same line out; it comes back when both are gone.
        due("strike(1, 0)", x.strike(1, 0), 5);
        duePatch(x, 5, 0, 0, NONE);
        due("pull(1, 0)", x.pull(1, 0), 1);
        dueLines(x, 0, 1);
        due("drop(0, 4)", x.drop(0, 4), 5);
        dueLines(x, 0, 1);
        due("drop(0, 5)", x.drop(0, 5), 4);
        dueLines(x, 0, 0, 1);

        PatchGraphs f = full();
        due("strike(0, 60)", f.strike(0, 60), NONE);
        due("strike(1, 0)", f.strike(1, 0), NONE);
        due("strike(0, 59)", f.strike(0, 59), FULL);
        due("strike(0, 0)", f.strike(0, 0), FULL);
        due("made()", f.made(), 60);
        due("length(0)", f.length(0), 60);
    }

    private static void pull() {
        PatchGraphs x = threeLines();
        for (int s = 0; s < 3; s++) {
            due("pull(" + s + ", " + s + ")", x.pull(s, s), BAD_ARG);
        }
        due("pull(1, 0)", x.pull(1, 0), 0);
        due("patches(0)", x.patches(0), 3);
        due("put(1, 0, 40)", x.put(1, 0, 40), 3);
        due("pull(0, 1)", x.pull(0, 1), 3);
        duePatches(x, 1, 0, 1, 2, 3);
        duePatches(x, 0, 0, 1, 2);
        due("pull(0, 1)", x.pull(0, 1), 0);
        due("pull(1, 2)", x.pull(1, 2), 4);
        due("pull(2, 0)", x.pull(2, 0), 1);
        due("agree(0, 1)", x.agree(0, 1), true);
        due("made()", x.made(), 4);
        PatchGraphs f = full();
        due("pull(0, 2)", f.pull(0, 2), 60);
        due("has(2, 59)", f.has(2, 59), true);
        due("length(2)", f.length(2), 60);
    }

    private static void pick() {
        PatchGraphs x = threeLines();
        due("put(0, 0, 40)", x.put(0, 0, 40), 3);
        due("strike(0, 2)", x.strike(0, 2), 4);
        due("pick(5, 1)", x.pick(5, 1), NONE);
        for (int p : NO_NUMBERS) {
            due("pick(" + p + ", 1)", x.pick(p, 1), NONE);
        }
        due("patches(1)", x.patches(1), 0);
        due("pick(4, 1)", x.pick(4, 1), 3);
        duePatches(x, 1, 0, 1, 4);
        dueLines(x, 1, 0);
        due("pick(4, 1)", x.pick(4, 1), 0);
        due("pick(1, 1)", x.pick(1, 1), 0);
        due("pick(2, 1)", x.pick(2, 1), 1);
        due("pick(3, 2)", x.pick(3, 2), 2);
        duePatches(x, 2, 0, 3);
        // A patch that no store has is still there to be picked.
        due("drop(0, 2)", x.drop(0, 2), 4);
        due("drop(1, 2)", x.drop(1, 2), 3);
        due("pick(2, 2)", x.pick(2, 2), 2);
        dueLines(x, 2, 3, 0, 1, 2);
        due("made()", x.made(), 5);
    }

    private static void drop() {
        PatchGraphs x = threeLines();
        due("strike(0, 2)", x.strike(0, 2), 3);
        due("drop(1, 0)", x.drop(1, 0), NONE);
        due("drop(0, 4)", x.drop(0, 4), NONE);
        for (int p : NO_NUMBERS) {
            due("drop(0, " + p + ")", x.drop(0, p), NONE);
        }
        due("drop(0, 2)", x.drop(0, 2), NEEDED);
        due("drop(0, 0)", x.drop(0, 0), NEEDED);
        duePatches(x, 0, 0, 1, 2, 3);
        due("drop(0, 3)", x.drop(0, 3), 3);
        due("drop(0, 3)", x.drop(0, 3), NONE);
        dueLines(x, 0, 0, 1, 2);
        due("pull(0, 1)", x.pull(0, 1), 3);
        due("drop(1, 2)", x.drop(1, 2), 2);
        duePatches(x, 0, 0, 1, 2);
        // Only the patches of the store itself count: store 0 still has 2, which needs 1.
        due("drop(1, 1)", x.drop(1, 1), 1);
        due("drop(0, 1)", x.drop(0, 1), NEEDED);
        due("drop(1, 0)", x.drop(1, 0), 0);
        due("made()", x.made(), 4);
        due("put(1, 0, 9)", x.put(1, 0, 9), 4);
    }

    private static void made() {
        PatchGraphs x = threeLines();
        due("made()", x.made(), 3);
        due("strike(0, 0)", x.strike(0, 0), 3);
        due("made()", x.made(), 4);
        x.pull(0, 1);
        x.pick(1, 2);
        x.drop(0, 3);
        due("made()", x.made(), 4);
        due("made()", full().made(), 60);
    }

    private static void patches() {
        PatchGraphs x = threeLines();
        due("strike(0, 0)", x.strike(0, 0), 3);
        due("patches(0)", x.patches(0), 4);
        due("patches(1)", x.patches(1), 0);
        x.pick(1, 2);
        due("patches(2)", x.patches(2), 2);
        due("patches(0)", full().patches(0), 60);
    }

    private static void has() {
        PatchGraphs x = threeLines();
        due("strike(0, 0)", x.strike(0, 0), 3);
        x.pick(1, 2);
        for (int p = 0; p < 4; p++) {
            due("has(0, " + p + ")", x.has(0, p), true);
            due("has(1, " + p + ")", x.has(1, p), false);
            due("has(2, " + p + ")", x.has(2, p), p < 2);
        }
        due("has(0, 4)", x.has(0, 4), false);
        for (int p : NO_NUMBERS) {
            due("has(0, " + p + ")", x.has(0, p), false);
        }
        PatchGraphs f = full();
        due("has(0, 59)", f.has(0, 59), true);
        due("has(0, 60)", f.has(0, 60), false);
        due("has(0, 64)", f.has(0, 64), false);
        due("has(0, -1)", f.has(0, -1), false);
    }

    private static void patch() {
        PatchGraphs x = threeLines();
        due("put(0, 1, 5)", x.put(0, 1, 5), 3);
        due("strike(0, 1)", x.strike(0, 1), 4);
        due("strike(0, 0)", x.strike(0, 0), 5);
        duePatch(x, 0, 1, NONE, NONE);
        duePatch(x, 2, 1, 1, NONE);
        duePatch(x, 3, 1, 0, 1);
        duePatch(x, 4, 0, 3, NONE);
        duePatch(x, 5, 0, 0, NONE);
        for (int what : new int[] {-1, 3, 4, Integer.MIN_VALUE, Integer.MAX_VALUE}) {
            due("patch(0, " + what + ")", x.patch(0, what), BAD_ARG);
            due("patch(99, " + what + ")", x.patch(99, what), BAD_ARG);
        }
        duePatch(x, 6, NONE, NONE, NONE);
        for (int p : NO_NUMBERS) {
            duePatch(x, p, NONE, NONE, NONE);
        }
        // A patch stays what it is when the store loses it.
        due("drop(0, 4)", x.drop(0, 4), 5);
        duePatch(x, 4, 0, 3, NONE);
    }

    private static void needs() {
        PatchGraphs x = threeLines();
        due("put(0, 1, 5)", x.put(0, 1, 5), 3);
        due("strike(0, 1)", x.strike(0, 1), 4);
        boolean[][] wanted = {
            {false, false, false, false, false},
            {true, false, false, false, false},
            {true, true, false, false, false},
            {true, true, false, false, false},
            {true, true, false, true, false},
        };
        for (int p = 0; p < 5; p++) {
            for (int q = 0; q < 5; q++) {
                due("needs(" + p + ", " + q + ")", x.needs(p, q), wanted[p][q]);
            }
        }
        due("needs(5, 0)", x.needs(5, 0), false);
        due("needs(4, 5)", x.needs(4, 5), false);
        for (int n : NO_NUMBERS) {
            due("needs(4, " + n + ")", x.needs(4, n), false);
            due("needs(" + n + ", 0)", x.needs(n, 0), false);
            due("needs(" + n + ", " + n + ")", x.needs(n, n), false);
        }
        // A patch that strikes a line out is not needed by one put where that line stood.
        due("put(0, 1, 6)", x.put(0, 1, 6), 5);
        due("needs(5, 4)", x.needs(5, 4), false);
        due("needs(5, 3)", x.needs(5, 3), false);
        due("needs(5, 1)", x.needs(5, 1), true);
        PatchGraphs f = full();
        due("needs(59, 0)", f.needs(59, 0), true);
        due("needs(59, 64)", f.needs(59, 64), false);
        due("needs(59, -64)", f.needs(59, -64), false);
        due("needs(0, 59)", f.needs(0, 59), false);
    }

    private static void needed() {
        PatchGraphs x = threeLines();
        due("put(0, 1, 5)", x.put(0, 1, 5), 3);
        due("strike(0, 1)", x.strike(0, 1), 4);
        due("needed(0)", x.needed(0), 0);
        due("needed(1)", x.needed(1), 1);
        due("needed(2)", x.needed(2), 2);
        due("needed(3)", x.needed(3), 2);
        due("needed(4)", x.needed(4), 3);
        due("needed(5)", x.needed(5), NONE);
        for (int p : NO_NUMBERS) {
            due("needed(" + p + ")", x.needed(p), NONE);
        }
        due("needed(59)", full().needed(59), 59);
    }

    private static void loose() {
        PatchGraphs x = threeLines();
        due("loose(0)", x.loose(0), 1);
        due("put(0, 0, 5)", x.put(0, 0, 5), 3);
        due("loose(0)", x.loose(0), 2);
        due("strike(0, 0)", x.strike(0, 0), 4);
        due("loose(0)", x.loose(0), 2);
        due("strike(0, 0)", x.strike(0, 0), 5);
        due("loose(0)", x.loose(0), 3);
        due("loose(1)", x.loose(1), 0);
        // In store 1 nothing needs 1, though 2 of store 0 does.
        due("pick(1, 1)", x.pick(1, 1), 2);
        due("loose(1)", x.loose(1), 1);
        due("drop(0, 5)", x.drop(0, 5), 5);
        due("loose(0)", x.loose(0), 2);
        due("loose(0)", full().loose(0), 1);
    }

    private static void length() {
        PatchGraphs x = threeLines();
        due("length(0)", x.length(0), 3);
        due("length(1)", x.length(1), 0);
        x.strike(0, 1);
        due("length(0)", x.length(0), 2);
        x.strike(0, 1);
        x.strike(0, 0);
        due("length(0)", x.length(0), 0);
        due("patches(0)", x.patches(0), 6);
        due("put(0, 0, 5)", x.put(0, 0, 5), 6);
        duePatch(x, 6, 1, NONE, NONE);
        due("length(0)", x.length(0), 1);
        due("length(0)", full().length(0), 60);
    }

    private static void line() {
        PatchGraphs x = threeLines();
        for (int k : NO_NUMBERS) {
            due("line(0, " + k + ")", x.line(0, k), NONE);
        }
        dueLines(x, 0, 0, 1, 2);
        due("put(0, 0, 5)", x.put(0, 0, 5), 3);
        dueLines(x, 0, 3, 0, 1, 2);
        due("strike(0, 0)", x.strike(0, 0), 4);
        dueLines(x, 0, 0, 1, 2);

        // The least number goes first only where no line is before it: 1, 3, 0 and not 0 at once.
        PatchGraphs y = almostRing();
        dueLines(y, 0, 0, 2, 1);
        dueLines(y, 2, 1, 4, 3, 0);
        due("drop(2, 4)", y.drop(2, 4), 3);
        dueLines(y, 2, 1, 3, 0);
        // A line that comes late in a long chain waits, and then goes before greater ones.
        due("put(2, 3, 5)", y.put(2, 3, 5), 5);
        due("drop(2, 3)", y.drop(2, 3), 3);
        dueLines(y, 2, 0, 1, 5);

        // Struck lines hold no other one back, but ways go through them.
        PatchGraphs z = new PatchGraphs();
        due("put(0, 0, 1)", z.put(0, 0, 1), 0);
        due("put(0, 0, 2)", z.put(0, 0, 2), 1);
        due("put(0, 0, 3)", z.put(0, 0, 3), 2);
        due("strike(0, 1)", z.strike(0, 1), 3);
        dueLines(z, 0, 2, 0);
        due("conflicts(0)", z.conflicts(0), 0);

        // What is before a line is taken over all that is left, not only over its neighbours.
        PatchGraphs f = new PatchGraphs();
        for (int i = 0; i < 60; i++) {
            due("put(0, 0, " + i + ")", f.put(0, 0, i), i);
        }
        int[] downward = new int[60];
        for (int k = 0; k < 60; k++) {
            downward[k] = 59 - k;
        }
        dueLines(f, 0, downward);
    }

    private static void content() {
        int[] contents = {0, -1, Integer.MAX_VALUE, Integer.MIN_VALUE, BAD_ARG, FULL, NONE, NEEDED, 7, 7};
        PatchGraphs x = new PatchGraphs();
        for (int k = 0; k < contents.length; k++) {
            due("put(1, " + k + ", " + contents[k] + ")", x.put(1, k, contents[k]), k);
        }
        for (int k = 0; k < contents.length; k++) {
            due("content(1, " + k + ")", x.content(1, k), contents[k]);
        }
        due("content(1, 10)", x.content(1, 10), NONE);
        due("content(0, 0)", x.content(0, 0), NONE);
        for (int k : NO_NUMBERS) {
            due("content(1, " + k + ")", x.content(1, k), NONE);
        }
        due("put(1, 0, 55)", x.put(1, 0, 55), 10);
        due("content(1, 0)", x.content(1, 0), 55);
        due("content(1, 1)", x.content(1, 1), 0);
        due("strike(1, 1)", x.strike(1, 1), 11);
        due("content(1, 1)", x.content(1, 1), -1);
        due("content(1, 10)", x.content(1, 10), NONE);
    }

    private static void conflicts() {
        PatchGraphs x = new PatchGraphs();
        for (int s = 0; s < 3; s++) {
            due("put(" + s + ", 0, 5)", x.put(s, 0, 5), s);
            due("conflicts(" + s + ")", x.conflicts(s), 0);
        }
        x.pull(1, 0);
        due("conflicts(0)", x.conflicts(0), 1);
        x.pull(2, 0);
        due("conflicts(0)", x.conflicts(0), 3);
        due("rings(0)", x.rings(0), 0);
        due("put(0, 1, 6)", x.put(0, 1, 6), 3);
        // 0, 3, 1 are in order now, and each of them is in conflict with 2.
        due("conflicts(0)", x.conflicts(0), 3);
        due("strike(0, 0)", x.strike(0, 0), 4);
        due("conflicts(0)", x.conflicts(0), 2);
        PatchGraphs y = almostRing();
        due("conflicts(0)", y.conflicts(0), 0);
        due("pull(0, 2)", y.pull(0, 2), 1);
        due("conflicts(2)", y.conflicts(2), 10);
        due("conflicts(0)", full().conflicts(0), 0);
    }

    private static void rings() {
        PatchGraphs x = almostRing();
        due("rings(0)", x.rings(0), 0);
        due("rings(2)", x.rings(2), 0);
        due("pull(0, 2)", x.pull(0, 2), 1);
        dueLines(x, 2, 0, 1, 2, 3, 4);
        due("rings(2)", x.rings(2), 10);
        due("conflicts(2)", x.conflicts(2), 10);
        // A struck line isn't of the text, but the ring still goes through it.
        due("strike(2, 0)", x.strike(2, 0), 5);
        due("rings(2)", x.rings(2), 6);
        due("strike(2, 0)", x.strike(2, 0), 6);
        due("rings(2)", x.rings(2), 3);
        dueLines(x, 2, 2, 3, 4);
        // Behind the whole ring stands a line that isn't in it; one in conflict is no ring.
        due("put(2, 3, 9)", x.put(2, 3, 9), 7);
        due("put(1, 0, 8)", x.put(1, 0, 8), 8);
        due("drop(1, 8)", x.drop(1, 8), 1);
        due("put(1, 1, 8)", x.put(1, 1, 8), 9);
        due("pull(1, 2)", x.pull(1, 2), 1);
        dueLines(x, 2, 2, 3, 4, 7, 9);
        due("rings(2)", x.rings(2), 3);
        due("conflicts(2)", x.conflicts(2), 4);
        due("drop(2, 9)", x.drop(2, 9), 8);
        due("drop(2, 2)", x.drop(2, 2), 7);
        // The ring is open: 4 leads to 3 and to 7, which stand side by side.
        due("rings(2)", x.rings(2), 0);
        due("conflicts(2)", x.conflicts(2), 1);
    }

    private static void before() {
        PatchGraphs x = threeLines();
        for (int a = 0; a < 3; a++) {
            for (int b = 0; b < 3; b++) {
                due("before(0, " + a + ", " + b + ")", x.before(0, a, b), a < b);
                due("before(1, " + a + ", " + b + ")", x.before(1, a, b), false);
            }
        }
        // A struck line is still a line of the store; the patch that strikes it is none.
        due("strike(0, 1)", x.strike(0, 1), 3);
        due("before(0, 0, 1)", x.before(0, 0, 1), true);
        due("before(0, 1, 2)", x.before(0, 1, 2), true);
        due("before(0, 0, 2)", x.before(0, 0, 2), true);
        due("before(0, 1, 3)", x.before(0, 1, 3), false);
        due("before(0, 3, 1)", x.before(0, 3, 1), false);
        due("before(0, 3, 3)", x.before(0, 3, 3), false);
        for (int n : NO_NUMBERS) {
            due("before(0, 0, " + n + ")", x.before(0, 0, n), false);
            due("before(0, " + n + ", 0)", x.before(0, n, 0), false);
            due("before(0, " + n + ", " + n + ")", x.before(0, n, n), false);
        }
        // Only the patches of the store itself make a way.
        PatchGraphs y = almostRing();
        due("before(0, 0, 1)", y.before(0, 0, 1), true);
        due("before(2, 0, 1)", y.before(2, 0, 1), false);
        due("before(2, 1, 0)", y.before(2, 1, 0), true);
        due("before(1, 1, 0)", y.before(1, 1, 0), false);
        due("before(2, 0, 2)", y.before(2, 0, 2), false);
        // In a ring no line is before another one, nor before itself.
        due("pull(0, 2)", y.pull(0, 2), 1);
        for (int a = 0; a < 5; a++) {
            for (int b = 0; b < 5; b++) {
                due("before(2, " + a + ", " + b + ")", y.before(2, a, b), false);
            }
        }
        due("put(2, 5, 9)", y.put(2, 5, 9), 5);
        due("before(2, 4, 5)", y.before(2, 4, 5), true);
        due("before(2, 0, 5)", y.before(2, 0, 5), true);
        due("before(2, 5, 0)", y.before(2, 5, 0), false);
        PatchGraphs f = full();
        due("before(0, 0, 59)", f.before(0, 0, 59), true);
        due("before(0, 59, 0)", f.before(0, 59, 0), false);
        due("before(0, 0, 64)", f.before(0, 0, 64), false);
    }

    private static void agree() {
        PatchGraphs x = threeLines();
        for (int s = 0; s < 3; s++) {
            due("agree(" + s + ", " + s + ")", x.agree(s, s), true);
        }
        due("agree(1, 2)", x.agree(1, 2), true);
        due("agree(0, 1)", x.agree(0, 1), false);
        due("agree(1, 0)", x.agree(1, 0), false);
        x.pull(0, 1);
        due("agree(0, 1)", x.agree(0, 1), true);
        // The same text from other patches doesn't agree.
        x.put(0, 3, 40);
        x.put(1, 3, 40);
        due("patches(0)", x.patches(0), 4);
        due("patches(1)", x.patches(1), 4);
        due("agree(0, 1)", x.agree(0, 1), false);
        due("alike(0, 1)", x.alike(0, 1), true);
        x.pull(0, 1);
        due("agree(0, 1)", x.agree(0, 1), false);
        x.pull(1, 0);
        due("agree(0, 1)", x.agree(0, 1), true);
    }

    private static void alike() {
        PatchGraphs x = new PatchGraphs();
        x.put(0, 0, 5);
        x.put(0, 1, 6);
        due("alike(0, 0)", x.alike(0, 0), true);
        due("alike(0, 1)", x.alike(0, 1), false);
        due("alike(1, 2)", x.alike(1, 2), true);
        x.put(1, 0, 6);
        due("alike(0, 1)", x.alike(0, 1), false);
        due("alike(1, 0)", x.alike(1, 0), false);
        x.put(1, 1, 5);
        // The same contents in another order are not alike.
        due("alike(0, 1)", x.alike(0, 1), false);
        due("strike(1, 0)", x.strike(1, 0), 4);
        due("put(1, 1, 6)", x.put(1, 1, 6), 5);
        due("alike(0, 1)", x.alike(0, 1), true);
        due("agree(0, 1)", x.agree(0, 1), false);
        due("put(1, 2, 0)", x.put(1, 2, 0), 6);
        due("alike(0, 1)", x.alike(0, 1), false);
        due("alike(1, 0)", x.alike(1, 0), false);
        // One content differs, at the first place and then at the last.
        due("put(2, 0, 4)", x.put(2, 0, 4), 7);
        due("put(2, 1, 6)", x.put(2, 1, 6), 8);
        due("alike(0, 2)", x.alike(0, 2), false);
        due("drop(2, 8)", x.drop(2, 8), 1);
        due("drop(2, 7)", x.drop(2, 7), 0);
        due("put(2, 0, 5)", x.put(2, 0, 5), 9);
        due("put(2, 1, 4)", x.put(2, 1, 4), 10);
        due("alike(0, 2)", x.alike(0, 2), false);
        due("drop(2, 10)", x.drop(2, 10), 1);
        due("drop(2, 9)", x.drop(2, 9), 0);
        x.strike(0, 0);
        x.strike(0, 0);
        due("alike(0, 2)", x.alike(0, 2), true);
        due("agree(0, 2)", x.agree(0, 2), false);
    }

    private static void test(String name, Runnable body) {
        part = name;
        body.run();
    }

    public static void main(String[] args) {
        test("constants", PromisesTest::constants);
        test("terms, no such store", PromisesTest::noSuchStore);
        test("promise 1, a new object", PromisesTest::newObject);
        test("promise 2, put", PromisesTest::put);
        test("promise 3, strike", PromisesTest::strike);
        test("promise 4, pull", PromisesTest::pull);
        test("promise 5, pick", PromisesTest::pick);
        test("promise 6, drop", PromisesTest::drop);
        test("promise 7, made", PromisesTest::made);
        test("promise 8, patches", PromisesTest::patches);
        test("promise 9, has", PromisesTest::has);
        test("promise 10, patch", PromisesTest::patch);
        test("promise 11, needs", PromisesTest::needs);
        test("promise 12, needed", PromisesTest::needed);
        test("promise 13, loose", PromisesTest::loose);
        test("promise 14, length", PromisesTest::length);
        test("promise 15, line", PromisesTest::line);
        test("promise 16, content", PromisesTest::content);
        test("promise 17, conflicts", PromisesTest::conflicts);
        test("promise 18, rings", PromisesTest::rings);
        test("promise 19, before", PromisesTest::before);
        test("promise 20, agree", PromisesTest::agree);
        test("promise 21, alike", PromisesTest::alike);
        System.out.println(wrong == 0 ? "all answers are as due" : wrong + " answers are not as due");
        if (wrong != 0) {
            System.exit(1);
        }
    }
}
