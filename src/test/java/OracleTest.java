import java.util.ArrayList;
import java.util.Arrays;
import java.util.HashMap;
import java.util.HashSet;
import java.util.LinkedHashSet;
import java.util.List;
import java.util.Map;
import java.util.Random;
import java.util.Set;
import java.util.TreeMap;

/**
 * Runs of calls with fixed seeds on TurnBench and on a plain second writing of the document, which knows no
 * caches, classes' sums or orbits: it reckons with maps, ranks and determinants. Every group that turns can make
 * comes at least once.
 */
public final class OracleTest {
    private static final int P = 32003;
    private static int wrong = 0;
    private static long asked = 0;
    private static final List<String> run = new ArrayList<>();

    private static void due(String call, long got, long want) {
        asked++;
        run.add(call + " -> " + want);
        if (got != want && wrong++ < 20) {
            System.out.println(call + " answered " + got + ", due is " + want + "; behind " + tail());
        }
    }

    private static String call(String name, int... args) {
        String text = Arrays.toString(args);
        return name + "(" + text.substring(1, text.length() - 1) + ")";
    }

    private static String tail() {
        return run.subList(Math.max(0, run.size() - 40), run.size()).toString();
    }

    public static void main(String[] args) {
        List<List<int[]>> all = everyGroup();
        if (all.size() != 98) {
            wrong++;
            System.out.println("the oracle finds " + all.size() + " groups, not 98");
        }
        Random random = new Random(20261116);
        for (List<int[]> turns : all) {
            wholeGroup(turns, random);
        }
        for (int r = 0; r < 300; r++) {
            randomRun(new Random(r), all);
        }
        System.out.println(asked + " calls, " + wrong + " wrong");
        if (wrong != 0) {
            System.exit(1);
        }
    }

    // ---- the runs

    private static List<List<int[]>> everyGroup() {
        List<int[]> turns = new ArrayList<>();
        int[] codes = {1, 2, 3, -1, -2, -3};
        for (int a : codes) {
            for (int b : codes) {
                for (int c : codes) {
                    if (Model.isTurn(a, b, c)) {
                        turns.add(new int[] {a, b, c});
                    }
                }
            }
        }
        Map<Set<String>, List<int[]>> found = new TreeMap<>((x, y) -> x.toString().compareTo(y.toString()));
        List<List<int[]>> open = new ArrayList<>();
        open.add(new ArrayList<>());
        for (int at = 0; at < open.size(); at++) {
            List<int[]> told = open.get(at);
            Set<String> key = new java.util.TreeSet<>();
            for (int[] e : Model.close(told)) {
                key.add(Arrays.toString(e));
            }
            if (found.putIfAbsent(key, told) == null && told.size() < 4) {
                for (int[] t : turns) {
                    List<int[]> more = new ArrayList<>(told);
                    more.add(t);
                    open.add(more);
                }
            }
        }
        return new ArrayList<>(found.values());
    }

    private static void wholeGroup(List<int[]> turns, Random random) {
        Pair x = new Pair();
        List<Integer> slots = new ArrayList<>(List.of(0, 1, 2, 3));
        java.util.Collections.shuffle(slots, random);
        for (int t = 0; t < turns.size(); t++) {
            int[] c = turns.get(t);
            x.turn(slots.get(t), c[0], c[1], c[2]);
        }
        x.group();
        int size = x.model.elements.size();
        for (int what = -1; what <= 8; what++) {
            x.about(what);
        }
        for (int g = 0; g < size; g++) {
            for (int what = 0; what < 4; what++) {
                x.of(g, what);
            }
            x.times(g, random.nextInt(size));
            for (int c = 0; c < x.model.signs.size(); c++) {
                x.sign(c, g);
            }
        }
        x = x.fresh();
        for (int c = -1; c <= x.model.signs.size(); c++) {
            for (int d = -1; d <= 9; d++) {
                x.count(d, c);
                x.series(d, c);
            }
            x.series(180 + random.nextInt(21), c);
        }
        for (int d = -1; d <= 7; d++) {
            x.laws(d, 0);
            x.laws(d, 1);
        }
        x = x.fresh();
        fewAndParts(x, random);
    }

    private static void fewAndParts(Pair x, Random random) {
        for (int i = 0; i <= x.model.few().size(); i++) {
            x.few(i % 8, i);
            x.wholePolynomial(i % 8);
        }
        for (int round = 0; round < 3; round++) {
            for (int n = 0; n < 12; n++) {
                int d = random.nextInt(7);
                int i = random.nextInt(d + 1);
                int j = random.nextInt(d - i + 1);
                x.put(0, i, j, d - i - j, random.nextInt());
            }
            x.mean(1, 0, 0);
            x.made(1);
            x.parts(11);
        }
    }

    private static void randomRun(Random random, List<List<int[]>> all) {
        Pair x = new Pair();
        while (x.calls < 440) {
            int pick = random.nextInt(40);
            if (pick == 0) {
                List<int[]> turns = all.get(random.nextInt(all.size()));
                for (int t = 0; t < 4; t++) {
                    x.drop(t);
                }
                for (int t = 0; t < turns.size(); t++) {
                    x.turn(t, turns.get(t)[0], turns.get(t)[1], turns.get(t)[2]);
                }
                x.group();
            } else {
                randomCall(x, random, pick);
            }
        }
    }

    private static int near(Random random, int most) {
        if (random.nextInt(25) == 0) {
            int[] odd = {-1, most + 1, Integer.MIN_VALUE, Integer.MAX_VALUE, -2, 1 << 30};
            return odd[random.nextInt(odd.length)];
        }
        return random.nextInt(most + 1);
    }

    private static int any(Random random) {
        int[] odd = {0, 1, -1, P, -P, Integer.MIN_VALUE, Integer.MAX_VALUE, P - 1};
        int pick = random.nextInt(12);
        return pick < odd.length ? odd[pick] : pick < 10 ? random.nextInt() : random.nextInt(7) - 3;
    }

    private static int code(Random random) {
        return random.nextInt(8) == 0 ? any(random) : random.nextInt(7) - 3;
    }

    private static void randomCall(Pair x, Random random, int pick) {
        int g = near(random, Math.max(1, x.model.elements.size()));
        int h = near(random, Math.max(1, x.model.elements.size()));
        int c = near(random, x.model.signs.size());
        int p = near(random, 7);
        int q = near(random, 7);
        int r = near(random, 7);
        int u = any(random);
        int v = any(random);
        int w = any(random);
        switch (pick) {
            case 1: x.turn(near(random, 3), code(random), code(random), code(random)); break;
            case 2: x.drop(near(random, 3)); break;
            case 3: x.group(); break;
            case 4: x.about(near(random, 8)); break;
            case 5: x.element(g, near(random, 2)); break;
            case 6: x.times(g, h); break;
            case 7: x.of(g, near(random, 3)); break;
            case 8: x.sign(c, g); break;
            case 9: case 10: case 11: case 12: case 13:
                x.put(p, near(random, 3), near(random, 3), near(random, 2), u); break;
            case 14: x.number(p, near(random, 3), near(random, 3), near(random, 2)); break;
            case 15: x.degree(p); break;
            case 16: x.sum(p, q, u, r, v); x.wholePolynomial(p); break;
            case 17: x.product(p, q, r); x.wholePolynomial(p); break;
            case 18: x.turned(p, q, g); x.wholePolynomial(p); break;
            case 19: case 20: x.mean(p, q, c); x.wholePolynomial(p); break;
            case 21: case 22: x.stays(p, c); break;
            case 23: x.count(near(random, 8), c); break;
            case 24: x.series(near(random, 200), c); break;
            case 25: case 26: x.few(p, near(random, 6)); break;
            case 27: x.laws(near(random, 6), near(random, 1)); break;
            case 28: case 29: x.mean(p, q, 0); x.made(p); x.parts(3); break;
            case 30: x.made(p); break;
            case 31: x.part(near(random, 8), near(random, 8)); break;
            case 32: case 33: x.value(p, u, v, w); break;
            case 34: case 35: x.images(u, v, w); break;
            case 36: case 37: x.image(near(random, x.model.images.size()), near(random, 2)); break;
            case 38: x.leads(u, v, w); break;
            default: x.leadsToImage(random.nextInt(48)); break;
        }
    }

    /** TurnBench and the model side by side; each call asks both. */
    private static final class Pair {
        static final int MOST_CALLS = 512;
        final TurnBench bench = new TurnBench();
        final Model model = new Model();
        int calls = 0;

        Pair() {
            run.clear();
        }

        /** A new pair with the same turns and group, as an object is used for 512 calls only. */
        Pair fresh() {
            Pair x = new Pair();
            for (int t = 0; t < 4; t++) {
                if (model.turns[t] != null) {
                    x.turn(t, model.turns[t][0], model.turns[t][1], model.turns[t][2]);
                }
            }
            x.group();
            return x;
        }

        void ask(String call, long got, long want) {
            calls++;
            due(call, got, want);
            if (calls > MOST_CALLS) {
                throw new IllegalStateException("the run asks one object more than " + MOST_CALLS + " times");
            }
        }

        void turn(int i, int a, int b, int c) {
            ask(call("turn", i, a, b, c), bench.turn(i, a, b, c) ? 1 : 0, model.turn(i, a, b, c) ? 1 : 0);
        }

        void drop(int i) {
            ask(call("drop", i), bench.drop(i) ? 1 : 0, model.drop(i) ? 1 : 0);
        }

        void group() {
            ask("group()", bench.group(), model.group());
        }

        void about(int what) {
            ask(call("about", what), bench.about(what), model.about(what));
        }

        void element(int g, int i) {
            ask(call("element", g, i),
                bench.element(g, i), model.isElement(g) && i >= 0 && i < 3 ? model.elements.get(g)[i] : 0);
        }

        void times(int g, int h) {
            ask(call("times", g, h),
                bench.times(g, h), model.isElement(g) && model.isElement(h) ? model.times(g, h) : -1);
        }

        void of(int g, int what) {
            ask(call("of", g, what), bench.of(g, what), model.of(g, what));
        }

        void sign(int c, int g) {
            ask(call("sign", c, g),
                bench.sign(c, g), model.isSign(c) && model.isElement(g) ? model.signs.get(c)[g] : 0);
        }

        void put(int p, int i, int j, int k, int n) {
            ask(call("put", p, i, j, k, n), bench.put(p, i, j, k, n) ? 1 : 0, model.put(p, i, j, k, n) ? 1 : 0);
        }

        void number(int p, int i, int j, int k) {
            ask(call("number", p, i, j, k), bench.number(p, i, j, k), model.number(p, i, j, k));
        }

        /** Two values tell a polynomial from any other, but for hardly any: all its numbers are too many calls. */
        void wholePolynomial(int p) {
            degree(p);
            value(p, 7, 11, 1300);
            value(p, 31001, -3, 500);
        }

        void degree(int p) {
            ask(call("degree", p),
                bench.degree(p), Model.isPolynomial(p) ? Model.degree(model.polynomials.get(p)) : -1);
        }

        void sum(int p, int q, int n, int r, int m) {
            ask(call("sum", p, q, n, r, m), bench.sum(p, q, n, r, m), model.sum(p, q, n, r, m));
        }

        void product(int p, int q, int r) {
            ask(call("product", p, q, r), bench.product(p, q, r), model.product(p, q, r));
        }

        void turned(int p, int q, int g) {
            ask(call("turned", p, q, g), bench.turned(p, q, g), model.turned(p, q, g));
        }

        void mean(int p, int q, int c) {
            ask(call("mean", p, q, c), bench.mean(p, q, c), model.mean(p, q, c));
        }

        void stays(int p, int c) {
            ask(call("stays", p, c), bench.stays(p, c), model.stays(p, c));
        }

        void count(int d, int c) {
            ask(call("count", d, c), bench.count(d, c), model.count(d, c));
        }

        void series(int d, int c) {
            ask(call("series", d, c), bench.series(d, c), model.series(d, c));
        }

        void few(int p, int i) {
            ask(call("few", p, i), bench.few(p, i), model.few(p, i));
        }

        void laws(int d, int what) {
            ask(call("laws", d, what), bench.laws(d, what), model.laws(d, what));
        }

        void made(int p) {
            ask(call("made", p), bench.made(p), model.made(p));
        }

        void part(int i, int what) {
            ask(call("part", i, what), bench.part(i, what), model.part(i, what));
        }

        void parts(int most) {
            for (int i = 0; i <= Math.min(model.parts.size(), most); i++) {
                for (int what = -1; what <= 8; what++) {
                    part(i, what);
                }
            }
        }

        void value(int p, int u, int v, int w) {
            ask(call("value", p, u, v, w), bench.value(p, u, v, w), model.value(p, u, v, w));
        }

        void images(int u, int v, int w) {
            ask(call("images", u, v, w), bench.images(u, v, w), model.images(u, v, w));
        }

        void image(int i, int what) {
            boolean known = i >= 0 && i < model.images.size() && what >= 0 && what < 3;
            ask(call("image", i, what), bench.image(i, what), known ? model.images.get(i).get(what) : 0);
        }

        void leads(int u, int v, int w) {
            ask(call("leads", u, v, w), bench.leads(u, v, w), model.leads(u, v, w));
        }

        void leadsToImage(int i) {
            if (!model.images.isEmpty()) {
                List<Integer> to = model.images.get(i % model.images.size());
                leads(to.get(0), to.get(1), to.get(2));
            }
        }
    }

    /** The document once more, in its plainest form. */
    private static final class Model {
        final int[][] turns = new int[4][];
        List<int[]> elements = new ArrayList<>();
        List<int[]> signs = new ArrayList<>();
        final List<Map<List<Integer>, Integer>> polynomials = new ArrayList<>();
        List<Map<List<Integer>, Integer>> fewRows;
        List<int[]> parts = new ArrayList<>();
        List<List<Integer>> images = new ArrayList<>();
        int[] place;

        Model() {
            for (int p = 0; p < 8; p++) {
                polynomials.add(new HashMap<>());
            }
            group();
        }

        static boolean isTurn(int a, int b, int c) {
            Set<Integer> letters = new HashSet<>();
            for (long code : new long[] {a, b, c}) {
                if (Math.abs(code) < 1 || Math.abs(code) > 3) {
                    return false;
                }
                letters.add((int) Math.abs(code));
            }
            return letters.size() == 3;
        }

        static boolean isPolynomial(int p) {
            return p >= 0 && p < 8;
        }

        boolean isElement(int g) {
            return g >= 0 && g < elements.size();
        }

        boolean isSign(int c) {
            return c >= 0 && c < signs.size();
        }

        boolean turn(int i, int a, int b, int c) {
            if (i < 0 || i > 3 || !isTurn(a, b, c)) {
                return false;
            }
            turns[i] = new int[] {a, b, c};
            return true;
        }

        boolean drop(int i) {
            boolean was = i >= 0 && i <= 3 && turns[i] != null;
            if (was) {
                turns[i] = null;
            }
            return was;
        }

        static int[] together(int[] first, int[] then) {
            int[] result = new int[3];
            for (int i = 0; i < 3; i++) {
                result[i] = Integer.signum(first[i]) * then[Math.abs(first[i]) - 1];
            }
            return result;
        }

        static int where(List<int[]> list, int[] e) {
            for (int g = 0; g < list.size(); g++) {
                if (Arrays.equals(list.get(g), e)) {
                    return g;
                }
            }
            return -1;
        }

        static List<int[]> close(List<int[]> told) {
            List<int[]> list = new ArrayList<>();
            list.add(new int[] {1, 2, 3});
            for (int g = 0; g < list.size(); g++) {
                for (int[] t : told) {
                    int[] e = together(list.get(g), t);
                    if (where(list, e) < 0) {
                        list.add(e);
                    }
                }
            }
            return list;
        }

        int group() {
            List<int[]> told = new ArrayList<>();
            for (int[] t : turns) {
                if (t != null) {
                    told.add(t);
                }
            }
            elements = close(told);
            fewRows = null;
            signs = new ArrayList<>();
            int n = elements.size();
            int[][] table = new int[n][n];
            for (int g = 0; g < n; g++) {
                for (int h = 0; h < n; h++) {
                    table[g][h] = times(g, h);
                }
            }
            addSigns(table, new int[n], 0);
            return n;
        }

        /** Gives element after element 1 and then -1, as long as no product is broken: so the rows come in order. */
        void addSigns(int[][] table, int[] row, int at) {
            if (at == row.length) {
                signs.add(row.clone());
                return;
            }
            for (int s = 1; s >= -1; s -= 2) {
                row[at] = s;
                if (isWhole(table, row, at)) {
                    addSigns(table, row, at + 1);
                }
            }
            row[at] = 0;
        }

        boolean isWhole(int[][] table, int[] row, int last) {
            for (int g = 0; g <= last; g++) {
                for (int h = 0; h <= last; h++) {
                    if (table[g][h] <= last && row[table[g][h]] != row[g] * row[h]) {
                        return false;
                    }
                }
            }
            return true;
        }

        int times(int g, int h) {
            return where(elements, together(elements.get(g), elements.get(h)));
        }

        int back(int g) {
            for (int h = 0; h < elements.size(); h++) {
                if (times(g, h) == 0) {
                    return h;
                }
            }
            throw new IllegalStateException();
        }

        int order(int g) {
            int n = 1;
            for (int at = g; at != 0; at = times(at, g)) {
                n++;
            }
            return n;
        }

        int[] classes() {
            int[] of = new int[elements.size()];
            Arrays.fill(of, -1);
            int next = 0;
            for (int g = 0; g < of.length; g++) {
                if (of[g] < 0) {
                    for (int f = 0; f < of.length; f++) {
                        of[times(times(f, g), back(f))] = next;
                    }
                    next++;
                }
            }
            return of;
        }

        int[][] matrix(int g) {
            int[][] m = new int[3][3];
            for (int i = 0; i < 3; i++) {
                int code = elements.get(g)[i];
                m[Math.abs(code) - 1][i] = Integer.signum(code);
            }
            return m;
        }

        boolean isMirror(int g) {
            int[][] m = matrix(g);
            for (int i = 0; i < 3; i++) {
                m[i][i]--;
            }
            return rank(List.of(m[0], m[1], m[2])) == 1;
        }

        int about(int what) {
            switch (what) {
                case 0: return elements.size();
                case 1: return kind();
                case 2: return Arrays.stream(classes()).max().getAsInt() + 1;
                case 3: return signs.size();
                case 4: return mirrors().size();
                case 5: return close(mirrors()).size() == elements.size() ? 1 : 0;
                case 6: return few().size();
                case 7: return few().stream().mapToInt(Model::degree).reduce(1, (a, b) -> a * b);
                default: return -1;
            }
        }

        int kind() {
            for (int g = 0; g < elements.size(); g++) {
                if (order(g) == elements.size()) {
                    return 0;
                }
            }
            for (int[] e : elements) {
                if (Math.min(e[0], Math.min(e[1], e[2])) < 0) {
                    return 2;
                }
            }
            return 1;
        }

        List<int[]> mirrors() {
            List<int[]> list = new ArrayList<>();
            for (int g = 0; g < elements.size(); g++) {
                if (isMirror(g)) {
                    list.add(elements.get(g));
                }
            }
            return list;
        }

        int of(int g, int what) {
            if (!isElement(g)) {
                return -1;
            }
            switch (what) {
                case 0: return back(g);
                case 1: return order(g);
                case 2: return classes()[g];
                case 3: return isMirror(g) ? 1 : 0;
                default: return -1;
            }
        }

        // ---- polynomials

        static int left(long n) {
            return (int) (((n % P) + P) % P);
        }

        static boolean arePowers(int i, int j, int k) {
            return i >= 0 && j >= 0 && k >= 0 && (long) i + j + k <= 8;
        }

        static void addTo(Map<List<Integer>, Integer> row, List<Integer> powers, long n) {
            int now = left(row.getOrDefault(powers, 0) + n);
            if (now == 0) {
                row.remove(powers);
            } else {
                row.put(powers, now);
            }
        }

        static int degree(Map<List<Integer>, Integer> row) {
            int d = -1;
            for (List<Integer> m : row.keySet()) {
                d = Math.max(d, m.get(0) + m.get(1) + m.get(2));
            }
            return d;
        }

        boolean put(int p, int i, int j, int k, int n) {
            if (!isPolynomial(p) || !arePowers(i, j, k)) {
                return false;
            }
            polynomials.get(p).remove(List.of(i, j, k));
            addTo(polynomials.get(p), List.of(i, j, k), n);
            return true;
        }

        int number(int p, int i, int j, int k) {
            return isPolynomial(p) && arePowers(i, j, k) ? polynomials.get(p).getOrDefault(List.of(i, j, k), 0) : 0;
        }

        int keep(int p, Map<List<Integer>, Integer> row) {
            polynomials.set(p, row);
            return degree(row);
        }

        static Map<List<Integer>, Integer> sum(
                Map<List<Integer>, Integer> a, long n, Map<List<Integer>, Integer> b, long m) {
            Map<List<Integer>, Integer> row = new HashMap<>();
            a.forEach((powers, x) -> addTo(row, powers, x * (long) left(n)));
            b.forEach((powers, x) -> addTo(row, powers, x * (long) left(m)));
            return row;
        }

        int sum(int p, int q, int n, int r, int m) {
            if (!isPolynomial(p) || !isPolynomial(q) || !isPolynomial(r)) {
                return -2;
            }
            return keep(p, sum(polynomials.get(q), n, polynomials.get(r), m));
        }

        static Map<List<Integer>, Integer> product(Map<List<Integer>, Integer> a, Map<List<Integer>, Integer> b) {
            Map<List<Integer>, Integer> row = new HashMap<>();
            a.forEach((x, n) -> b.forEach((y, m) ->
                addTo(row, List.of(x.get(0) + y.get(0), x.get(1) + y.get(1), x.get(2) + y.get(2)), (long) n * m)));
            return row;
        }

        int product(int p, int q, int r) {
            if (!isPolynomial(p) || !isPolynomial(q) || !isPolynomial(r)) {
                return -2;
            }
            Map<List<Integer>, Integer> row = product(polynomials.get(q), polynomials.get(r));
            return degree(row) > 8 ? -2 : keep(p, row);
        }

        /** Each letter becomes a polynomial of its own, and the powers are multiplied out. */
        Map<List<Integer>, Integer> turned(Map<List<Integer>, Integer> a, int g) {
            Map<List<Integer>, Integer> row = new HashMap<>();
            a.forEach((powers, n) -> {
                Map<List<Integer>, Integer> term = new HashMap<>();
                addTo(term, List.of(0, 0, 0), n);
                for (int letter = 0; letter < 3; letter++) {
                    int code = elements.get(g)[letter];
                    Integer[] one = {0, 0, 0};
                    one[Math.abs(code) - 1] = 1;
                    Map<List<Integer>, Integer> becomes = new HashMap<>();
                    addTo(becomes, List.of(one), Integer.signum(code));
                    for (int times = 0; times < powers.get(letter); times++) {
                        term = product(term, becomes);
                    }
                }
                term.forEach((m, x) -> addTo(row, m, x));
            });
            return row;
        }

        int turned(int p, int q, int g) {
            if (!isPolynomial(p) || !isPolynomial(q) || !isElement(g)) {
                return -2;
            }
            return keep(p, turned(polynomials.get(q), g));
        }

        static int inverse(int n) {
            return java.math.BigInteger.valueOf(n).modInverse(java.math.BigInteger.valueOf(P)).intValue();
        }

        Map<List<Integer>, Integer> mean(Map<List<Integer>, Integer> a, int c) {
            Map<List<Integer>, Integer> row = new HashMap<>();
            for (int g = 0; g < elements.size(); g++) {
                row = sum(row, 1, turned(a, g), signs.get(c)[g]);
            }
            return sum(row, inverse(elements.size()), row, 0);
        }

        int mean(int p, int q, int c) {
            if (!isPolynomial(p) || !isPolynomial(q) || !isSign(c)) {
                return -2;
            }
            return keep(p, mean(polynomials.get(q), c));
        }

        int stays(int p, int c) {
            if (!isPolynomial(p) || !isSign(c)) {
                return -1;
            }
            Map<List<Integer>, Integer> row = polynomials.get(p);
            for (int g = 0; g < elements.size(); g++) {
                if (!turned(row, g).equals(sum(row, signs.get(c)[g], row, 0))) {
                    return 0;
                }
            }
            return 1;
        }

        static List<List<Integer>> powersOf(int d) {
            List<List<Integer>> list = new ArrayList<>();
            for (int i = d; i >= 0; i--) {
                for (int j = d - i; j >= 0; j--) {
                    list.add(List.of(i, j, d - i - j));
                }
            }
            return list;
        }

        static int[] asRow(Map<List<Integer>, Integer> a, int d) {
            return powersOf(d).stream().mapToInt(m -> a.getOrDefault(m, 0)).toArray();
        }

        static int rank(List<int[]> rows) {
            List<int[]> m = new ArrayList<>();
            for (int[] row : rows) {
                m.add(Arrays.stream(row).map(Model::left).toArray());
            }
            int rank = 0;
            int width = m.isEmpty() ? 0 : m.get(0).length;
            for (int col = 0; col < width; col++) {
                int at = rank;
                while (at < m.size() && m.get(at)[col] == 0) {
                    at++;
                }
                if (at < m.size()) {
                    java.util.Collections.swap(m, rank, at);
                    clearBelow(m, rank++, col);
                }
            }
            return rank;
        }

        static void clearBelow(List<int[]> m, int from, int col) {
            int[] top = m.get(from);
            long share = inverse(top[col]);
            for (int r = from + 1; r < m.size(); r++) {
                long factor = m.get(r)[col] * share % P;
                for (int x = col; factor != 0 && x < top.length; x++) {
                    m.get(r)[x] = left(m.get(r)[x] - factor * top[x]);
                }
            }
        }

        /** Those stay that each 'turned, less the sign times itself' sends to 0: all, less the rank of these. */
        int count(int d, int c) {
            if (d < 0 || d > 8 || !isSign(c)) {
                return -1;
            }
            List<int[]> rows = new ArrayList<>();
            for (List<Integer> powers : powersOf(d)) {
                Map<List<Integer>, Integer> one = Map.of(powers, 1);
                List<Integer> row = new ArrayList<>();
                for (int g : makers()) {
                    for (int n : asRow(sum(turned(one, g), 1, one, -signs.get(c)[g]), d)) {
                        row.add(n);
                    }
                }
                rows.add(row.stream().mapToInt(n -> n).toArray());
            }
            return rows.size() - rank(rows);
        }

        /** The elements that the turns are: what stays under them stays under all. */
        List<Integer> makers() {
            List<Integer> list = new ArrayList<>();
            List<int[]> made = new ArrayList<>();
            for (int g = 1; g < elements.size(); g++) {
                if (where(close(made), elements.get(g)) < 0) {
                    made.add(elements.get(g));
                    list.add(g);
                }
            }
            return list;
        }

        /** D is the determinant of 1 less t times the element: 1 - trace t + minors t t - determinant t t t. */
        int series(int d, int c) {
            if (d < 0 || d > 200 || !isSign(c)) {
                return -1;
            }
            long total = 0;
            for (int g = 0; g < elements.size(); g++) {
                int[][] m = matrix(g);
                long trace = m[0][0] + m[1][1] + m[2][2];
                long minors = minor(m, 0, 1) + minor(m, 0, 2) + minor(m, 1, 2);
                long det = m[0][0] * minor(m, 1, 2)
                    - m[0][1] * (m[1][0] * m[2][2] - m[1][2] * m[2][0])
                    + m[0][2] * (m[1][0] * m[2][1] - m[1][1] * m[2][0]);
                long[] row = new long[d + 4];
                row[3] = 1;
                for (int n = 4; n < row.length; n++) {
                    row[n] = trace * row[n - 1] - minors * row[n - 2] + det * row[n - 3];
                }
                total += signs.get(c)[g] * row[d + 3];
            }
            if (total % elements.size() != 0) {
                throw new IllegalStateException();
            }
            return (int) (total / elements.size());
        }

        static int minor(int[][] m, int a, int b) {
            return m[a][a] * m[b][b] - m[a][b] * m[b][a];
        }

        // ---- the few

        List<Map<List<Integer>, Integer>> few() {
            if (fewRows == null) {
                fewRows = new ArrayList<>();
                for (int d = 1; d <= 6; d++) {
                    addFew(d);
                }
            }
            return fewRows;
        }

        void addFew(int d) {
            List<int[]> rows = new ArrayList<>();
            for (int[] often : products(d)) {
                rows.add(asRow(expanded(often), d));
            }
            for (List<Integer> powers : powersOf(d)) {
                Map<List<Integer>, Integer> one = mean(Map.of(powers, 1), 0);
                int before = rank(rows);
                rows.add(asRow(one, d));
                if (rank(rows) > before) {
                    fewRows.add(one);
                } else {
                    rows.remove(rows.size() - 1);
                }
            }
        }

        List<int[]> products(int d) {
            List<int[]> list = new ArrayList<>();
            addProducts(list, new int[fewRows.size()], 0, d);
            return list;
        }

        void addProducts(List<int[]> list, int[] often, int at, int left) {
            if (at == often.length) {
                if (left == 0) {
                    list.add(often.clone());
                }
                return;
            }
            int d = degree(fewRows.get(at));
            for (int n = left / d; n >= 0; n--) {
                often[at] = n;
                addProducts(list, often, at + 1, left - n * d);
            }
            often[at] = 0;
        }

        Map<List<Integer>, Integer> expanded(int[] often) {
            Map<List<Integer>, Integer> row = new HashMap<>();
            row.put(List.of(0, 0, 0), 1);
            for (int k = 0; k < often.length; k++) {
                for (int n = 0; n < often[k]; n++) {
                    row = product(row, fewRows.get(k));
                }
            }
            return row;
        }

        int few(int p, int i) {
            if (!isPolynomial(p) || i < 0 || i >= few().size()) {
                return -2;
            }
            return keep(p, new HashMap<>(few().get(i)));
        }

        int laws(int d, int what) {
            if (d < 0 || d > 6 || what < 0 || what > 1) {
                return -1;
            }
            few();
            return products(d).size() - (what == 1 ? count(d, 0) : 0);
        }

        int made(int p) {
            if (!isPolynomial(p) || stays(p, 0) != 1 || degree(polynomials.get(p)) > 6) {
                return -1;
            }
            few();
            parts = new ArrayList<>();
            for (int d = 0; d <= 6; d++) {
                addParts(asRow(polynomials.get(p), d), d);
            }
            return parts.size();
        }

        void addParts(int[] row, int d) {
            List<int[]> free = new ArrayList<>();
            List<int[]> rows = new ArrayList<>();
            for (int[] often : products(d)) {
                rows.add(asRow(expanded(often), d));
                if (rank(rows) == rows.size()) {
                    free.add(often);
                } else {
                    rows.remove(rows.size() - 1);
                }
            }
            int[] multiples = solve(rows, row);
            for (int x = 0; x < free.size(); x++) {
                if (multiples[x] != 0) {
                    int[] part = new int[2 + few().size()];
                    part[0] = multiples[x];
                    part[1] = d;
                    System.arraycopy(free.get(x), 0, part, 2, few().size());
                    parts.add(part);
                }
            }
        }

        /** Which multiples of the rows, none of which is made of the others, make the wanted row. */
        static int[] solve(List<int[]> rows, int[] wanted) {
            int n = rows.size();
            List<int[]> m = new ArrayList<>();
            for (int col = 0; col < wanted.length; col++) {
                int[] line = new int[n + 1];
                for (int r = 0; r < n; r++) {
                    line[r] = rows.get(r)[col];
                }
                line[n] = wanted[col];
                m.add(line);
            }
            for (int x = 0; x < n; x++) {
                int at = x;
                while (m.get(at)[x] == 0) {
                    at++;
                }
                java.util.Collections.swap(m, x, at);
                clearBelow(m, x, x);
            }
            int[] result = new int[n];
            for (int x = n - 1; x >= 0; x--) {
                long rest = m.get(x)[n];
                for (int y = x + 1; y < n; y++) {
                    rest -= (long) m.get(x)[y] * result[y] % P;
                }
                result[x] = left(left(rest) * (long) inverse(m.get(x)[x]));
            }
            return result;
        }

        int part(int i, int what) {
            return i >= 0 && i < parts.size() && what >= 0 && what < parts.get(i).length ? parts.get(i)[what] : -1;
        }

        // ---- places

        int value(int p, int u, int v, int w) {
            if (!isPolynomial(p)) {
                return -1;
            }
            java.math.BigInteger total = java.math.BigInteger.ZERO;
            for (Map.Entry<List<Integer>, Integer> e : polynomials.get(p).entrySet()) {
                total = total.add(java.math.BigInteger.valueOf(e.getValue())
                    .multiply(java.math.BigInteger.valueOf(u).pow(e.getKey().get(0)))
                    .multiply(java.math.BigInteger.valueOf(v).pow(e.getKey().get(1)))
                    .multiply(java.math.BigInteger.valueOf(w).pow(e.getKey().get(2))));
            }
            return total.mod(java.math.BigInteger.valueOf(P)).intValue();
        }

        static List<Integer> led(int[] e, int[] from) {
            Integer[] to = new Integer[3];
            for (int i = 0; i < 3; i++) {
                to[Math.abs(e[i]) - 1] = Integer.signum(e[i]) * from[i];
            }
            return List.of(to);
        }

        int images(int u, int v, int w) {
            place = new int[] {u, v, w};
            Set<List<Integer>> found = new LinkedHashSet<>();
            for (int[] e : elements) {
                found.add(led(e, place));
            }
            images = new ArrayList<>(found);
            return images.size();
        }

        int leads(int u, int v, int w) {
            for (int g = 0; place != null && g < elements.size(); g++) {
                if (led(elements.get(g), place).equals(List.of(u, v, w))) {
                    return g;
                }
            }
            return -1;
        }
    }
}
