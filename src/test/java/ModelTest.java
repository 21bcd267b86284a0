import java.util.ArrayList;
import java.util.HashMap;
import java.util.HashSet;
import java.util.List;
import java.util.Map;
import java.util.Set;
import java.util.TreeSet;

// Long runs of calls, the same in each run of the test, against a model that says the document's
// terms over again with sets and searches, and shares no way of working with the class.
public final class ModelTest {
    private static final int BAD_ARG = -1000000001;
    private static final int FULL = -1000000002;
    private static final int NONE = -1000000003;
    private static final int NEEDED = -1000000004;
    private static final int RUNS = 1500;
    private static final int CALLS = 512;

    private record Patch(boolean puts, Integer upper, Integer lower, int content) {
        List<Integer> restsOn() {
            List<Integer> found = new ArrayList<>();
            if (upper != null) {
                found.add(upper);
            }
            if (lower != null) {
                found.add(lower);
            }
            return found;
        }
    }

    private static final class Model {
        final List<Patch> made = new ArrayList<>();
        final List<Set<Integer>> stores = List.of(new TreeSet<>(), new TreeSet<>(), new TreeSet<>());
        // What a line leads to, for as long as the store stays as it is.
        final List<Map<Integer, Set<Integer>>> ways = List.of(new HashMap<>(), new HashMap<>(), new HashMap<>());

        boolean noStore(int s) {
            return s != 0 && s != 1 && s != 2;
        }

        boolean noPatch(int p) {
            return p < 0 || p >= made.size();
        }

        Set<Integer> needsOf(int p) {
            Set<Integer> found = new TreeSet<>();
            List<Integer> open = new ArrayList<>(made.get(p).restsOn());
            while (!open.isEmpty()) {
                int q = open.remove(open.size() - 1);
                if (found.add(q)) {
                    open.addAll(made.get(q).restsOn());
                }
            }
            return found;
        }

        Set<Integer> linesOf(int s) {
            Set<Integer> lines = new TreeSet<>(stores.get(s));
            lines.removeIf(p -> !made.get(p).puts());
            return lines;
        }

        Set<Integer> shown(int s) {
            Set<Integer> lines = linesOf(s);
            for (int p : stores.get(s)) {
                if (!made.get(p).puts()) {
                    lines.remove(made.get(p).upper());
                }
            }
            return lines;
        }

        boolean leads(int s, int a, int b) {
            return ways.get(s).computeIfAbsent(a, from -> search(s, from)).contains(b);
        }

        Set<Integer> search(int s, int a) {
            Set<Integer> seen = new HashSet<>();
            Set<Integer> lines = linesOf(s);
            List<Integer> open = new ArrayList<>(List.of(a));
            while (!open.isEmpty()) {
                int at = open.remove(open.size() - 1);
                List<Integer> steps = new ArrayList<>();
                for (int p : lines) {
                    Integer upper = made.get(p).upper();
                    if (upper != null && upper == at) {
                        steps.add(p);
                    }
                }
                if (made.get(at).lower() != null) {
                    steps.add(made.get(at).lower());
                }
                for (int to : steps) {
                    if (seen.add(to)) {
                        open.add(to);
                    }
                }
            }
            return seen;
        }

        boolean isBefore(int s, int a, int b) {
            return leads(s, a, b) && !leads(s, b, a);
        }

        List<Integer> text(int s) {
            Set<Integer> left = shown(s);
            List<Integer> list = new ArrayList<>();
            while (!left.isEmpty()) {
                Integer next = null;
                for (int a : left) {
                    boolean free = true;
                    for (int b : left) {
                        if (b != a && free && isBefore(s, b, a)) {
                            free = false;
                        }
                    }
                    if (free && next == null) {
                        next = a;
                        break;
                    }
                }
                list.add(next);
                left.remove(next);
            }
            return list;
        }

        List<Integer> contents(int s) {
            List<Integer> found = new ArrayList<>();
            for (int a : text(s)) {
                found.add(made.get(a).content());
            }
            return found;
        }

        int make(int s, Patch p) {
            made.add(p);
            stores.get(s).add(made.size() - 1);
            ways.get(s).clear();
            return made.size() - 1;
        }

        int give(int t, Set<Integer> set) {
            int had = stores.get(t).size();
            stores.get(t).addAll(set);
            ways.get(t).clear();
            return stores.get(t).size() - had;
        }

        boolean neededIn(int s, int p) {
            for (int q : stores.get(s)) {
                if (needsOf(q).contains(p)) {
                    return true;
                }
            }
            return false;
        }

        int put(int s, int k, int x) {
            if (noStore(s)) {
                return BAD_ARG;
            }
            List<Integer> text = text(s);
            if (k < 0 || k > text.size()) {
                return BAD_ARG;
            }
            if (made.size() == 60) {
                return FULL;
            }
            Integer upper = k == 0 ? null : text.get(k - 1);
            Integer lower = k == text.size() ? null : text.get(k);
            return make(s, new Patch(true, upper, lower, x));
        }

        int strike(int s, int k) {
            if (noStore(s)) {
                return BAD_ARG;
            }
            List<Integer> text = text(s);
            if (k < 0 || k >= text.size()) {
                return NONE;
            }
            if (made.size() == 60) {
                return FULL;
            }
            return make(s, new Patch(false, text.get(k), null, 0));
        }

        int pull(int s, int t) {
            return noStore(s) || noStore(t) || s == t ? BAD_ARG : give(t, stores.get(s));
        }

        int pick(int p, int t) {
            if (noStore(t)) {
                return BAD_ARG;
            }
            if (noPatch(p)) {
                return NONE;
            }
            Set<Integer> set = needsOf(p);
            set.add(p);
            return give(t, set);
        }

        int drop(int s, int p) {
            if (noStore(s)) {
                return BAD_ARG;
            }
            if (!stores.get(s).contains(p)) {
                return NONE;
            }
            if (neededIn(s, p)) {
                return NEEDED;
            }
            stores.get(s).remove(p);
            ways.get(s).clear();
            return stores.get(s).size();
        }

        int patch(int p, int what) {
            if (what < 0 || what > 2) {
                return BAD_ARG;
            }
            if (noPatch(p)) {
                return NONE;
            }
            Patch of = made.get(p);
            if (what == 0) {
                return of.puts() ? 1 : 0;
            }
            Integer line = what == 1 ? of.upper() : of.lower();
            return line == null ? NONE : line;
        }

        int loose(int s) {
            if (noStore(s)) {
                return BAD_ARG;
            }
            int count = 0;
            for (int p : stores.get(s)) {
                count += neededIn(s, p) ? 0 : 1;
            }
            return count;
        }

        int lineAt(int s, int k, boolean content) {
            if (noStore(s)) {
                return BAD_ARG;
            }
            List<Integer> text = content ? contents(s) : text(s);
            return k < 0 || k >= text.size() ? NONE : text.get(k);
        }

        int pairs(int s, boolean rings) {
            if (noStore(s)) {
                return BAD_ARG;
            }
            int count = 0;
            Set<Integer> shown = shown(s);
            for (int a : shown) {
                for (int b : shown) {
                    if (a < b) {
                        boolean there = leads(s, a, b);
                        boolean back = leads(s, b, a);
                        count += there == back && (there || !rings) ? 1 : 0;
                    }
                }
            }
            return count;
        }
    }

    private static int wrong = 0;
    private static int rings = 0;
    private static int full = 0;
    private static long state;
    private static final List<String> calls = new ArrayList<>();

    /** From 0 to bound - 1, by a generator of our own, so that a run never changes. */
    private static int draw(int bound) {
        state = state * 6364136223846793005L + 1442695040888963407L;
        return (int) ((state >>> 33) % bound);
    }

    private static int drawStore() {
        return draw(40) == 0 ? (draw(2) == 0 ? -1 : 3) : draw(3);
    }

    private static int drawPatch(Model m) {
        return draw(30) == 0 ? draw(70) - 5 : draw(m.made.size() + 1);
    }

    private static int drawPlace(Model m, int s) {
        return draw(m.noStore(s) ? 3 : m.shown(s).size() + 2) - (draw(20) == 0 ? 1 : 0);
    }

    private static void due(int run, String call, int got, int want) {
        calls.add(call);
        if (got != want) {
            wrong++;
            System.out.println("run " + run + ": " + call + " answered " + got + ", due is " + want
                + ", after " + calls);
        }
    }

    private static int of(boolean b) {
        return b ? 1 : 0;
    }

    private static void change(int run, PatchGraphs x, Model m) {
        int s = drawStore();
        int t = drawStore();
        int p = drawPatch(m);
        int k = drawPlace(m, s);
        int c = draw(3);
        switch (draw(9)) {
            case 0, 1, 2, 3 -> due(run, "put(" + s + ", " + k + ", " + c + ")", x.put(s, k, c), m.put(s, k, c));
            case 4 -> due(run, "strike(" + s + ", " + k + ")", x.strike(s, k), m.strike(s, k));
            case 5 -> due(run, "pull(" + s + ", " + t + ")", x.pull(s, t), m.pull(s, t));
            case 6, 7 -> due(run, "pick(" + p + ", " + t + ")", x.pick(p, t), m.pick(p, t));
            default -> due(run, "drop(" + s + ", " + p + ")", x.drop(s, p), m.drop(s, p));
        }
    }

    private static void ask(int run, PatchGraphs x, Model m) {
        int s = drawStore();
        int t = drawStore();
        int p = drawPatch(m);
        int q = drawPatch(m);
        int k = drawPlace(m, s);
        int what = draw(5) - 1;
        boolean stores = !m.noStore(s) && !m.noStore(t);
        switch (draw(15)) {
            case 0 -> due(run, "made()", x.made(), m.made.size());
            case 1 -> due(run, "patches(" + s + ")", x.patches(s), m.noStore(s) ? BAD_ARG : m.stores.get(s).size());
            case 2 -> due(run, "has(" + s + ", " + p + ")", of(x.has(s, p)),
                of(!m.noStore(s) && m.stores.get(s).contains(p)));
            case 3 -> due(run, "patch(" + p + ", " + what + ")", x.patch(p, what), m.patch(p, what));
            case 4 -> due(run, "needs(" + p + ", " + q + ")", of(x.needs(p, q)),
                of(!m.noPatch(p) && m.needsOf(p).contains(q)));
            case 5 -> due(run, "needed(" + p + ")", x.needed(p), m.noPatch(p) ? NONE : m.needsOf(p).size());
            case 6 -> due(run, "loose(" + s + ")", x.loose(s), m.loose(s));
            case 7 -> due(run, "length(" + s + ")", x.length(s), m.noStore(s) ? BAD_ARG : m.shown(s).size());
            case 8 -> due(run, "line(" + s + ", " + k + ")", x.line(s, k), m.lineAt(s, k, false));
            case 9 -> due(run, "content(" + s + ", " + k + ")", x.content(s, k), m.lineAt(s, k, true));
            case 10 -> due(run, "conflicts(" + s + ")", x.conflicts(s), m.pairs(s, false));
            case 11 -> askRings(run, x, m, s);
            case 12 -> due(run, "before(" + s + ", " + p + ", " + q + ")", of(x.before(s, p, q)),
                of(!m.noStore(s) && m.linesOf(s).contains(p) && m.linesOf(s).contains(q) && m.isBefore(s, p, q)));
            case 13 -> due(run, "agree(" + s + ", " + t + ")", of(x.agree(s, t)),
                of(stores && m.stores.get(s).equals(m.stores.get(t))));
            default -> due(run, "alike(" + s + ", " + t + ")", of(x.alike(s, t)),
                of(stores && m.contents(s).equals(m.contents(t))));
        }
    }

    private static void askRings(int run, PatchGraphs x, Model m, int s) {
        int want = m.pairs(s, true);
        due(run, "rings(" + s + ")", x.rings(s), want);
        rings += want > 0 ? 1 : 0;
    }

    private static void run(int run) {
        PatchGraphs x = new PatchGraphs();
        Model m = new Model();
        calls.clear();
        state = run;
        // Short runs stay in small texts; some long ones come to the 60 patches.
        int last = run % 25 == 0 ? CALLS : 40 + draw(100);
        int changes = run % 25 == 0 ? 4 : 2 + draw(6);
        for (int i = 0; i < last; i++) {
            if (draw(10) < changes) {
                change(run, x, m);
            } else {
                ask(run, x, m);
            }
        }
        full += m.made.size() == 60 ? 1 : 0;
    }

    public static void main(String[] args) {
        for (int run = 0; run < RUNS && wrong < 10; run++) {
            run(run);
        }
        if (wrong == 0 && (rings == 0 || full == 0)) {
            System.out.println("the runs came to " + rings + " rings and " + full + " times to 60 patches");
            wrong++;
        }
        System.out.println(wrong == 0
            ? "all answers are as the model's; rings were asked for " + rings + " times, " + full + " runs came to 60 patches"
            : wrong + " answers are not as due");
        if (wrong != 0) {
            System.exit(1);
        }
    }
}
