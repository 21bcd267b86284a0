/**
 * Texts of lines in three stores that are made of patches. What a store shows is worked out anew
 * from its set of patches in each call, so it can depend on nothing else.
 */
public final class PatchGraphs {
    public static final int BAD_ARG = -1000000001;
    public static final int FULL = -1000000002;
    public static final int NONE = -1000000003;
    public static final int NEEDED = -1000000004;

    private static final int STORES = 3;
    private static final int MOST_PATCHES = 60;

    // A set of patches or of lines is a long whose bit n stands for number n: 60 of them fit.
    private final long[] patchesOf = new long[STORES];
    private final long[] needsOf = new long[MOST_PATCHES];
    private final boolean[] putsIn = new boolean[MOST_PATCHES];
    // The upper line, or the line struck out; NONE stands for the top, as patch() answers it.
    private final int[] upperOf = new int[MOST_PATCHES];
    // The lower line; NONE stands for the end, and for what a striking patch doesn't have.
    private final int[] lowerOf = new int[MOST_PATCHES];
    private final int[] contentOf = new int[MOST_PATCHES];
    private int madeCount;

    // Scratch of the running call; no call relies on what an earlier one left here.
    private final long[] ledTo = new long[MOST_PATCHES];
    private final int[] text = new int[MOST_PATCHES];
    private final int[] otherText = new int[MOST_PATCHES];

    public PatchGraphs() {
        madeCount = 0;
    }

    public int put(int s, int k, int x) {
        if (!isStore(s)) {
            return BAD_ARG;
        }
        int count = writeText(s, text);
        if (k < 0 || k > count) {
            return BAD_ARG;
        }
        if (madeCount >= MOST_PATCHES) {
            return FULL;
        }
        int upper = k == 0 ? NONE : text[k - 1];
        int lower = k == count ? NONE : text[k];
        return makePatch(s, true, upper, lower, x);
    }

    public int strike(int s, int k) {
        if (!isStore(s)) {
            return BAD_ARG;
        }
        int count = writeText(s, text);
        if (k < 0 || k >= count) {
            return NONE;
        }
        if (madeCount >= MOST_PATCHES) {
            return FULL;
        }
        return makePatch(s, false, text[k], NONE, 0);
    }

    public int pull(int s, int t) {
        if (!isStore(s) || !isStore(t) || s == t) {
            return BAD_ARG;
        }
        return giveAll(t, patchesOf[s]);
    }

    public int pick(int p, int t) {
        if (!isStore(t)) {
            return BAD_ARG;
        }
        if (!isPatch(p)) {
            return NONE;
        }
        long withNeeds = needsOf[p] | only(p);
        return giveAll(t, withNeeds);
    }

    public int drop(int s, int p) {
        if (!isStore(s)) {
            return BAD_ARG;
        }
        if (!isPatch(p) || !isIn(p, patchesOf[s])) {
            return NONE;
        }
        long needed = neededIn(s);
        if (isIn(p, needed)) {
            return NEEDED;
        }
        patchesOf[s] &= ~only(p);
        return size(patchesOf[s]);
    }

    public int made() {
        return madeCount;
    }

    public int patches(int s) {
        if (!isStore(s)) {
            return BAD_ARG;
        }
        return size(patchesOf[s]);
    }

    public boolean has(int s, int p) {
        return isStore(s) && isPatch(p) && isIn(p, patchesOf[s]);
    }

    public int patch(int p, int what) {
        if (what < 0 || what > 2) {
            return BAD_ARG;
        }
        if (!isPatch(p)) {
            return NONE;
        }
        if (what == 0) {
            return putsIn[p] ? 1 : 0;
        }
        return what == 1 ? upperOf[p] : lowerOf[p];
    }

    public boolean needs(int p, int q) {
        return isPatch(p) && isPatch(q) && isIn(q, needsOf[p]);
    }

    public int needed(int p) {
        if (!isPatch(p)) {
            return NONE;
        }
        return size(needsOf[p]);
    }

    public int loose(int s) {
        if (!isStore(s)) {
            return BAD_ARG;
        }
        long needed = neededIn(s);
        return size(patchesOf[s] & ~needed);
    }

    public int length(int s) {
        if (!isStore(s)) {
            return BAD_ARG;
        }
        return writeText(s, text);
    }

    public int line(int s, int k) {
        if (!isStore(s)) {
            return BAD_ARG;
        }
        int count = writeText(s, text);
        if (k < 0 || k >= count) {
            return NONE;
        }
        return text[k];
    }

    public int content(int s, int k) {
        if (!isStore(s)) {
            return BAD_ARG;
        }
        int count = writeText(s, text);
        if (k < 0 || k >= count) {
            return NONE;
        }
        return contentOf[text[k]];
    }

    public int conflicts(int s) {
        if (!isStore(s)) {
            return BAD_ARG;
        }
        int count = writeText(s, text);
        int pairs = 0;
        for (int i = 0; i < count; i++) {
            for (int j = i + 1; j < count; j++) {
                if (!isBefore(text[i], text[j]) && !isBefore(text[j], text[i])) {
                    pairs++;
                }
            }
        }
        return pairs;
    }

    public int rings(int s) {
        if (!isStore(s)) {
            return BAD_ARG;
        }
        int count = writeText(s, text);
        int pairs = 0;
        for (int i = 0; i < count; i++) {
            for (int j = i + 1; j < count; j++) {
                // Lines that lead to each other are in conflict, so that needs no test here.
                if (leadToEachOther(text[i], text[j])) {
                    pairs++;
                }
            }
        }
        return pairs;
    }

    public boolean before(int s, int a, int b) {
        if (!isStore(s) || !isLineOf(s, a) || !isLineOf(s, b)) {
            return false;
        }
        findWays(s);
        return isBefore(a, b);
    }

    public boolean agree(int s, int t) {
        return isStore(s) && isStore(t) && patchesOf[s] == patchesOf[t];
    }

    public boolean alike(int s, int t) {
        if (!isStore(s) || !isStore(t)) {
            return false;
        }
        int count = writeText(s, text);
        int otherCount = writeText(t, otherText);
        if (count != otherCount) {
            return false;
        }
        for (int i = 0; i < count; i++) {
            if (contentOf[text[i]] != contentOf[otherText[i]]) {
                return false;
            }
        }
        return true;
    }

    private static boolean isStore(int s) {
        return s >= 0 && s < STORES;
    }

    private boolean isPatch(int p) {
        return p >= 0 && p < madeCount;
    }

    private boolean isLineOf(int s, int a) {
        return isPatch(a) && putsIn[a] && isIn(a, patchesOf[s]);
    }

    private static long only(int n) {
        return 1L << n;
    }

    private static boolean isIn(int n, long set) {
        return (set >>> n & 1L) != 0L;
    }

    private static int size(long set) {
        int count = 0;
        for (int n = 0; n < MOST_PATCHES; n++) {
            if (isIn(n, set)) {
                count++;
            }
        }
        return count;
    }

    private int makePatch(int s, boolean puts, int upper, int lower, int x) {
        int p = madeCount;
        putsIn[p] = puts;
        upperOf[p] = upper;
        lowerOf[p] = lower;
        contentOf[p] = x;
        needsOf[p] = needsThrough(upper) | needsThrough(lower);
        patchesOf[s] |= only(p);
        madeCount = p + 1;
        return p;
    }

    /** What a patch needs because it rests on this line, or on the top or the end. */
    private long needsThrough(int line) {
        return line == NONE ? 0L : needsOf[line] | only(line);
    }

    private int giveAll(int t, long set) {
        int missing = size(set & ~patchesOf[t]);
        patchesOf[t] |= set;
        return missing;
    }

    private long neededIn(int s) {
        long needed = 0L;
        for (int p = 0; p < madeCount; p++) {
            if (isIn(p, patchesOf[s])) {
                needed |= needsOf[p];
            }
        }
        return needed;
    }

    /** Writes the text of store s down and answers its length; ledTo then holds for store s. */
    private int writeText(int s, int[] lines) {
        findWays(s);
        long left = linesNotStruck(s);
        int length = size(left);
        for (int k = 0; k < length; k++) {
            int next = nextLine(left);
            lines[k] = next;
            left &= ~only(next);
        }
        return length;
    }

    private long linesNotStruck(int s) {
        long lines = 0L;
        long struck = 0L;
        for (int p = 0; p < madeCount; p++) {
            if (isIn(p, patchesOf[s])) {
                if (putsIn[p]) {
                    lines |= only(p);
                } else {
                    struck |= only(upperOf[p]);
                }
            }
        }
        return lines & ~struck;
    }

    /** Being before is a strict order, so as long as a line is left, one has none before it. */
    private int nextLine(long left) {
        int next = 0;
        boolean found = false;
        for (int a = 0; a < madeCount && !found; a++) {
            if (isIn(a, left) && isFirstOf(left, a)) {
                next = a;
                found = true;
            }
        }
        return next;
    }

    private boolean isFirstOf(long left, int a) {
        for (int b = 0; b < madeCount; b++) {
            if (isIn(b, left) && isBefore(b, a)) {
                return false;
            }
        }
        return true;
    }

    private boolean isBefore(int a, int b) {
        return isIn(b, ledTo[a]) && !isIn(a, ledTo[b]);
    }

    private boolean leadToEachOther(int a, int b) {
        return isIn(b, ledTo[a]) && isIn(a, ledTo[b]);
    }

    /** Sets ledTo for store s. Struck lines stay in: a way may go through them. */
    private void findWays(int s) {
        findSteps(s);
        for (int middle = 0; middle < madeCount; middle++) {
            for (int a = 0; a < madeCount; a++) {
                if (isIn(middle, ledTo[a])) {
                    ledTo[a] |= ledTo[middle];
                }
            }
        }
    }

    private void findSteps(int s) {
        for (int a = 0; a < madeCount; a++) {
            ledTo[a] = 0L;
        }
        for (int p = 0; p < madeCount; p++) {
            if (putsIn[p] && isIn(p, patchesOf[s])) {
                if (upperOf[p] != NONE) {
                    ledTo[upperOf[p]] |= only(p);
                }
                if (lowerOf[p] != NONE) {
                    ledTo[p] |= only(lowerOf[p]);
                }
            }
        }
    }
}
