import java.util.Arrays;

/**
 * What turns leave: groups of turns of three letters, the polynomials modulo a prime that stay under
 * them, and places with their images. The promises are told in the project's document, DOC.md.
 */
public final class TurnBench {
    /** There is none. */
    public static final int NONE = -1;

    private static final int REFUSED = -2;
    private static final int PRIME = 32003;
    private static final int LETTERS = 3;
    private static final int MOST_TURNS = 4;
    private static final int MOST_ELEMENTS = 48;
    private static final int MOST_SIGNS = 16;
    private static final int POLYNOMIALS = 8;
    private static final int MOST_DEGREE = 8;
    private static final int ALL_POWERS = 165;
    private static final int SERIES_DEGREE = 200;
    private static final int MADE_DEGREE = 6;
    private static final int MOST_PARTS = 84;

    // The 98 groups that turns can make have 6 FEW at most, and no more PRODUCTS of degree 0 .. 6 than these.
    private static final int MOST_FEW = 6;
    private static final int[] MOST_PRODUCTS = {1, 3, 6, 10, 21, 21, 56};

    private final Told told = new Told();
    private final Group group = new Group();
    private final Signs signs = new Signs();
    private final Molien molien = new Molien();
    private final Polynomials polynomials = new Polynomials();
    private final Few few = new Few();
    private final Parts parts = new Parts();
    private final Images images = new Images();

    public TurnBench() {
        makeGroup();
    }

    private void makeGroup() {
        group.makeOf(told);
        signs.makeOf(group);
        few.forget();
    }

    public boolean turn(int i, int a, int b, int c) {
        return told.tell(i, a, b, c);
    }

    public boolean drop(int i) {
        return told.forget(i);
    }

    public int group() {
        makeGroup();
        return group.size;
    }

    public int about(int what) {
        switch (what) {
            case 0: return group.size;
            case 1: return group.kind();
            case 2: return group.classes;
            case 3: return signs.howMany;
            case 4: return group.mirrors;
            case 5: return group.isMadeOfMirrors() ? 1 : 0;
            case 6:
                few.find(group, polynomials.powers);
                return few.howMany;
            case 7:
                few.find(group, polynomials.powers);
                return few.degreesTogether();
            default: return NONE;
        }
    }

    public int element(int g, int i) {
        return group.has(g) && i >= 0 && i < LETTERS ? group.codes[g][i] : 0;
    }

    public int times(int g, int h) {
        return group.has(g) && group.has(h) ? group.table[g][h] : NONE;
    }

    public int of(int g, int what) {
        if (!group.has(g)) {
            return NONE;
        }
        switch (what) {
            case 0: return group.back[g];
            case 1: return group.order[g];
            case 2: return group.classOf[g];
            case 3: return group.isMirror[g] ? 1 : 0;
            default: return NONE;
        }
    }

    public int sign(int c, int g) {
        return signs.has(c) && group.has(g) ? signs.rows[c][g] : 0;
    }

    public boolean put(int p, int i, int j, int k, int n) {
        if (!polynomials.has(p) || !Powers.are(i, j, k)) {
            return false;
        }
        polynomials.rows[p][Powers.indexOf(i, j, k)] = leftOver(n);
        return true;
    }

    public int number(int p, int i, int j, int k) {
        return polynomials.has(p) && Powers.are(i, j, k) ? polynomials.rows[p][Powers.indexOf(i, j, k)] : 0;
    }

    public int degree(int p) {
        return polynomials.has(p) ? polynomials.degreeOf(p) : NONE;
    }

    public int sum(int p, int q, int n, int r, int m) {
        if (!polynomials.has(p) || !polynomials.has(q) || !polynomials.has(r)) {
            return REFUSED;
        }
        polynomials.combine(p, q, leftOver(n), r, leftOver(m));
        return polynomials.degreeOf(p);
    }

    public int product(int p, int q, int r) {
        if (!polynomials.has(p) || !polynomials.has(q) || !polynomials.has(r)) {
            return REFUSED;
        }
        if (polynomials.degreeOf(q) + polynomials.degreeOf(r) > MOST_DEGREE) {
            return REFUSED;
        }
        polynomials.multiply(p, q, r);
        return polynomials.degreeOf(p);
    }

    public int turned(int p, int q, int g) {
        if (!polynomials.has(p) || !polynomials.has(q) || !group.has(g)) {
            return REFUSED;
        }
        polynomials.turnInto(p, q, group.codes[g]);
        return polynomials.degreeOf(p);
    }

    public int mean(int p, int q, int c) {
        if (!polynomials.has(p) || !polynomials.has(q) || !signs.has(c)) {
            return REFUSED;
        }
        polynomials.averageInto(p, q, group, signs.rows[c]);
        return polynomials.degreeOf(p);
    }

    public int stays(int p, int c) {
        if (!polynomials.has(p) || !signs.has(c)) {
            return NONE;
        }
        return polynomials.isLeft(p, group, signs.rows[c]) ? 1 : 0;
    }

    public int count(int d, int c) {
        if (d < 0 || d > MOST_DEGREE || !signs.has(c)) {
            return NONE;
        }
        return polynomials.countLeft(d, group, signs.rows[c]);
    }

    public int series(int d, int c) {
        if (d < 0 || d > SERIES_DEGREE || !signs.has(c)) {
            return NONE;
        }
        return molien.at(d, group, signs.rows[c]);
    }

    public int few(int p, int i) {
        few.find(group, polynomials.powers);
        if (!polynomials.has(p) || !few.has(i)) {
            return REFUSED;
        }
        few.copyInto(polynomials.rows[p], i);
        return polynomials.degreeOf(p);
    }

    public int laws(int d, int what) {
        if (d < 0 || d > MADE_DEGREE || what < 0 || what > 1) {
            return NONE;
        }
        few.find(group, polynomials.powers);
        int products = few.layers[d].howMany;
        return what == 0 ? products : products - count(d, 0);
    }

    public int made(int p) {
        if (stays(p, 0) != 1 || polynomials.degreeOf(p) > MADE_DEGREE) {
            return NONE;
        }
        few.find(group, polynomials.powers);
        few.split(polynomials.rows[p], parts);
        return parts.howMany;
    }

    public int part(int i, int what) {
        return parts.tell(i, what);
    }

    public int value(int p, int u, int v, int w) {
        return polynomials.has(p) ? polynomials.valueAt(p, u, v, w) : NONE;
    }

    public int images(int u, int v, int w) {
        images.find(group, u, v, w);
        return images.howMany;
    }

    public int image(int i, int what) {
        return images.tell(i, what);
    }

    public int leads(int u, int v, int w) {
        return images.leastLeading(group, u, v, w);
    }

    // Modulo the prime: a product of two NUMBERS, and one NUMBER more, still fits an int.
    private static int leftOver(int n) {
        return Math.floorMod(n, PRIME);
    }

    private static int signedNumber(int sign, int n) {
        return sign < 0 && n != 0 ? PRIME - n : n;
    }

    // To the power PRIME - 2 a number is what it must be multiplied by to make 1.
    private static int inverse(int n) {
        int result = 1;
        int square = leftOver(n);
        for (int left = PRIME - 2; left > 0; left >>= 1) {
            if ((left & 1) == 1) {
                result = result * square % PRIME;
            }
            square = square * square % PRIME;
        }
        return result;
    }

    private static void takeOff(int[] target, int[] row, int factor, int places) {
        int less = PRIME - factor;
        for (int x = 0; x < places; x++) {
            if (row[x] != 0) {
                target[x] = (target[x] + less * row[x]) % PRIME;
            }
        }
    }

    // A code is an index and 1 more, with a sign: of a letter, or of powers.
    private static int indexOfCode(int code) {
        return code > 0 ? code - 1 : -code - 1;
    }

    /** The TURNS that are told. */
    private static final class Told {
        final int[][] codes = new int[MOST_TURNS][LETTERS];
        final boolean[] isTold = new boolean[MOST_TURNS];

        boolean tell(int i, int a, int b, int c) {
            if (i < 0 || i >= MOST_TURNS || !areTurn(a, b, c)) {
                return false;
            }
            codes[i][0] = a;
            codes[i][1] = b;
            codes[i][2] = c;
            isTold[i] = true;
            return true;
        }

        boolean forget(int i) {
            if (i < 0 || i >= MOST_TURNS || !isTold[i]) {
                return false;
            }
            isTold[i] = false;
            return true;
        }

        private static boolean isCode(int code) {
            return code != 0 && code >= -LETTERS && code <= LETTERS;
        }

        private static boolean areTurn(int a, int b, int c) {
            if (!isCode(a) || !isCode(b) || !isCode(c)) {
                return false;
            }
            int first = indexOfCode(a);
            int second = indexOfCode(b);
            int third = indexOfCode(c);
            return first != second && first != third && second != third;
        }
    }

    /** The rings of letters that an element leads to one another. */
    private static final class Rings {
        final int[] length = new int[LETTERS];
        final int[] signProduct = new int[LETTERS];
        int howMany;

        void read(int[] codes) {
            howMany = 0;
            int seen = 0;
            for (int first = 0; first < LETTERS; first++) {
                if ((seen >> first & 1) == 0) {
                    seen |= readRing(codes, first);
                }
            }
        }

        private int readRing(int[] codes, int first) {
            int seen = 0;
            int steps = 0;
            int product = 1;
            int at = first;
            do {
                seen |= 1 << at;
                product = codes[at] < 0 ? -product : product;
                at = indexOfCode(codes[at]);
                steps++;
            } while (at != first && steps < LETTERS);
            length[howMany] = steps;
            signProduct[howMany] = product;
            howMany++;
            return seen;
        }

        // Each ring whose signs make 1 leaves one line as it is, and no other ring leaves any.
        int linesLeft() {
            int lines = 0;
            for (int r = 0; r < howMany; r++) {
                lines += signProduct[r] > 0 ? 1 : 0;
            }
            return lines;
        }
    }

    /** THE GROUP as it was made latest; it keeps its own copy of the turns, as others may be told behind that. */
    private static final class Group {
        private static final int KEYS = 343;

        int size;
        int turns;
        int classes;
        int mirrors;
        final int[][] codes = new int[MOST_ELEMENTS][LETTERS];
        final int[] elementOfKey = new int[KEYS];
        final int[][] turnCodes = new int[MOST_TURNS][LETTERS];
        final int[][] withTurn = new int[MOST_ELEMENTS][MOST_TURNS];
        final int[] madeFrom = new int[MOST_ELEMENTS];
        final int[] madeBy = new int[MOST_ELEMENTS];
        final int[][] table = new int[MOST_ELEMENTS][MOST_ELEMENTS];
        final int[] back = new int[MOST_ELEMENTS];
        final int[] order = new int[MOST_ELEMENTS];
        final int[] classOf = new int[MOST_ELEMENTS];
        final int[] classLeast = new int[MOST_ELEMENTS];
        final int[] classSize = new int[MOST_ELEMENTS];
        final boolean[] isMirror = new boolean[MOST_ELEMENTS];
        final Rings rings = new Rings();

        boolean has(int g) {
            return g >= 0 && g < size;
        }

        void makeOf(Told told) {
            takeTurns(told);
            size = 0;
            Arrays.fill(elementOfKey, NONE);
            findOrAdd(1, 2, 3, 0, 0);
            for (int g = 0; g < size && g < MOST_ELEMENTS; g++) {
                for (int t = 0; t < turns; t++) {
                    withTurn[g][t] = elementThenTurn(g, t);
                }
            }
            fillTable();
            fillBacksAndOrders();
            fillClasses();
            fillMirrors();
        }

        private void takeTurns(Told told) {
            turns = 0;
            for (int i = 0; i < MOST_TURNS; i++) {
                if (told.isTold[i]) {
                    System.arraycopy(told.codes[i], 0, turnCodes[turns], 0, LETTERS);
                    turns++;
                }
            }
        }

        private int elementThenTurn(int g, int t) {
            int[] first = codes[g];
            int[] then = turnCodes[t];
            return findOrAdd(codeThen(first[0], then), codeThen(first[1], then), codeThen(first[2], then), g, t);
        }

        private static int codeThen(int code, int[] then) {
            int next = then[indexOfCode(code)];
            return code < 0 ? -next : next;
        }

        private int findOrAdd(int a, int b, int c, int from, int by) {
            int key = ((a + LETTERS) * 7 + b + LETTERS) * 7 + c + LETTERS;
            if (elementOfKey[key] == NONE && size < MOST_ELEMENTS) {
                elementOfKey[key] = size;
                codes[size][0] = a;
                codes[size][1] = b;
                codes[size][2] = c;
                madeFrom[size] = from;
                madeBy[size] = by;
                size++;
            }
            return Math.max(0, elementOfKey[key]);
        }

        // h is an element ahead of it and then a turn, so g and then h is found from what stands ahead in the row.
        private void fillTable() {
            for (int g = 0; g < size; g++) {
                table[g][0] = g;
                for (int h = 1; h < size; h++) {
                    table[g][h] = withTurn[table[g][madeFrom[h]]][madeBy[h]];
                }
            }
        }

        private void fillBacksAndOrders() {
            for (int g = 0; g < size; g++) {
                int before = 0;
                int at = g;
                int steps = 1;
                while (at != 0 && steps < MOST_ELEMENTS) {
                    before = at;
                    at = table[at][g];
                    steps++;
                }
                back[g] = before;
                order[g] = steps;
            }
        }

        private void fillClasses() {
            classes = 0;
            Arrays.fill(classOf, NONE);
            for (int g = 0; g < size; g++) {
                if (classOf[g] == NONE) {
                    fillClass(g);
                }
            }
        }

        private void fillClass(int least) {
            int members = 0;
            for (int f = 0; f < size; f++) {
                int like = table[table[f][least]][back[f]];
                if (classOf[like] == NONE) {
                    classOf[like] = classes;
                    members++;
                }
            }
            classLeast[classes] = least;
            classSize[classes] = members;
            classes++;
        }

        private void fillMirrors() {
            mirrors = 0;
            for (int g = 0; g < size; g++) {
                rings.read(codes[g]);
                isMirror[g] = rings.linesLeft() == LETTERS - 1;
                mirrors += isMirror[g] ? 1 : 0;
            }
        }

        int kind() {
            boolean hasSign = false;
            for (int g = 0; g < size; g++) {
                if (order[g] == size) {
                    return 0;
                }
                hasSign = hasSign || codes[g][0] < 0 || codes[g][1] < 0 || codes[g][2] < 0;
            }
            return hasSign ? 2 : 1;
        }

        boolean isMadeOfMirrors() {
            long reached = 1L;
            int before = 0;
            while (Long.bitCount(reached) > before && before < MOST_ELEMENTS) {
                before = Long.bitCount(reached);
                reached |= oneMirrorMore(reached);
            }
            return before == size;
        }

        // A set of elements is told by the bits of a long.
        private long oneMirrorMore(long reached) {
            long more = 0L;
            for (int g = 0; g < size; g++) {
                for (int m = 0; m < size && (reached >> g & 1L) == 1L; m++) {
                    more |= isMirror[m] ? 1L << table[g][m] : 0L;
                }
            }
            return more;
        }
    }

    /** The SIGNS of THE GROUP: a sign is told by what it gives the turns. */
    private static final class Signs {
        int howMany;
        final int[][] rows = new int[MOST_SIGNS][MOST_ELEMENTS];

        boolean has(int c) {
            return c >= 0 && c < howMany;
        }

        // The turns come behind element 0 by their numbers: with the first turn as the choice's highest bit, and
        // a bit for -1, the choices come in the order of the signs.
        void makeOf(Group group) {
            howMany = 0;
            for (int choice = 0; choice < 1 << group.turns && howMany < MOST_SIGNS; choice++) {
                fillRow(group, choice, rows[howMany]);
                if (isSign(group, choice, rows[howMany])) {
                    howMany++;
                }
            }
        }

        private static int given(Group group, int choice, int t) {
            return (choice >> group.turns - 1 - t & 1) == 0 ? 1 : -1;
        }

        private static void fillRow(Group group, int choice, int[] row) {
            row[0] = 1;
            for (int g = 1; g < group.size; g++) {
                row[g] = row[group.madeFrom[g]] * given(group, choice, group.madeBy[g]);
            }
        }

        private static boolean isSign(Group group, int choice, int[] row) {
            for (int t = 0; t < group.turns; t++) {
                int turnGives = given(group, choice, t);
                for (int g = 0; g < group.size; g++) {
                    if (row[group.withTurn[g][t]] != row[g] * turnGives) {
                        return false;
                    }
                }
            }
            return true;
        }
    }

    /** SERIES: one by D, degree by degree, and its sum over THE GROUP. */
    private static final class Molien {
        final int[] row = new int[SERIES_DEGREE + 1];

        // Elements of one class have the same D and the same sign: one of each class is enough.
        int at(int d, Group group, int[] sign) {
            int total = 0;
            for (int c = 0; c < group.classes; c++) {
                int least = group.classLeast[c];
                total += sign[least] * group.classSize[c] * oneByD(d, group.rings, group.codes[least]);
            }
            return group.size > 0 ? total / group.size : 0;
        }

        private int oneByD(int d, Rings rings, int[] codes) {
            rings.read(codes);
            Arrays.fill(row, 0);
            row[0] = 1;
            for (int r = 0; r < rings.howMany; r++) {
                int length = rings.length[r];
                for (int n = length; n <= d; n++) {
                    row[n] += rings.signProduct[r] * row[n - length];
                }
            }
            return row[d];
        }
    }

    /** The POWERS i, j, k in one row: by their degree, of a degree the greater i first, then the greater j. */
    private static final class Powers {
        final int[][] of = new int[LETTERS][ALL_POWERS];
        final int[] degree = new int[ALL_POWERS];
        final int[] sent = new int[LETTERS];

        Powers() {
            int at = 0;
            for (int d = 0; d <= MOST_DEGREE; d++) {
                for (int rest = 0; rest <= d; rest++) {
                    for (int k = 0; k <= rest && at < ALL_POWERS; k++) {
                        of[0][at] = d - rest;
                        of[1][at] = rest - k;
                        of[2][at] = k;
                        degree[at] = d;
                        at++;
                    }
                }
            }
        }

        static boolean are(int i, int j, int k) {
            if (i < 0 || i > MOST_DEGREE || j < 0 || j > MOST_DEGREE || k < 0 || k > MOST_DEGREE) {
                return false;
            }
            return i + j + k <= MOST_DEGREE;
        }

        static int firstOf(int d) {
            return d * (d + 1) * (d + 2) / 6;
        }

        static int widthOf(int d) {
            return (d + 1) * (d + 2) / 2;
        }

        static int indexOf(int i, int j, int k) {
            int rest = j + k;
            int d = i + rest;
            return d * (d + 1) * (d + 2) / 6 + rest * (rest + 1) / 2 + k;
        }

        int indexOfProduct(int x, int y) {
            return indexOf(of[0][x] + of[0][y], of[1][x] + of[1][y], of[2][x] + of[2][y]);
        }

        /** The code of what an element turns these powers to. */
        int turnedCode(int[] codes, int x) {
            int sign = 1;
            for (int letter = 0; letter < LETTERS; letter++) {
                int power = of[letter][x];
                sent[indexOfCode(codes[letter])] = power;
                if (codes[letter] < 0 && (power & 1) == 1) {
                    sign = -sign;
                }
            }
            return sign * (indexOf(sent[0], sent[1], sent[2]) + 1);
        }
    }

    /** POLYNOMIALS 0 .. 7; what is reckoned is put together in a row aside, as p may be q or r. */
    private static final class Polynomials {
        final int[][] rows = new int[POLYNOMIALS][ALL_POWERS];
        final int[] aside = new int[ALL_POWERS];
        final int[][] letterPowers = new int[LETTERS][MOST_DEGREE + 1];
        final Powers powers = new Powers();

        boolean has(int p) {
            return p >= 0 && p < POLYNOMIALS;
        }

        int degreeOf(int p) {
            for (int x = ALL_POWERS - 1; x >= 0; x--) {
                if (rows[p][x] != 0) {
                    return powers.degree[x];
                }
            }
            return NONE;
        }

        void combine(int p, int q, int n, int r, int m) {
            for (int x = 0; x < ALL_POWERS; x++) {
                rows[p][x] = (rows[q][x] * n % PRIME + rows[r][x] * m % PRIME) % PRIME;
            }
        }

        void multiply(int p, int q, int r) {
            Arrays.fill(aside, 0);
            int places = Powers.firstOf(degreeOf(r) + 1);
            for (int x = 0; x < ALL_POWERS; x++) {
                int n = rows[q][x];
                for (int y = 0; n != 0 && y < places; y++) {
                    if (rows[r][y] != 0) {
                        addAside(powers.indexOfProduct(x, y), n * rows[r][y] % PRIME);
                    }
                }
            }
            keepAside(p);
        }

        private void addAside(int at, int n) {
            if (at >= 0 && at < ALL_POWERS) {
                aside[at] = (aside[at] + n) % PRIME;
            }
        }

        private void keepAside(int p) {
            System.arraycopy(aside, 0, rows[p], 0, ALL_POWERS);
        }

        void turnInto(int p, int q, int[] codes) {
            Arrays.fill(aside, 0);
            addTurned(rows[q], codes, 1);
            keepAside(p);
        }

        private void addTurned(int[] row, int[] codes, int sign) {
            for (int x = 0; x < ALL_POWERS; x++) {
                if (row[x] != 0) {
                    int code = powers.turnedCode(codes, x);
                    addAside(indexOfCode(code), signedNumber(code * sign, row[x]));
                }
            }
        }

        void averageInto(int p, int q, Group group, int[] sign) {
            Arrays.fill(aside, 0);
            for (int g = 0; g < group.size; g++) {
                addTurned(rows[q], group.codes[g], sign[g]);
            }
            int share = inverse(group.size);
            for (int x = 0; x < ALL_POWERS; x++) {
                aside[x] = aside[x] * share % PRIME;
            }
            keepAside(p);
        }

        // No two powers are turned to the same ones: if all numbers that are not 0 arrive, the 0 do too.
        boolean isLeft(int p, Group group, int[] sign) {
            int[] row = rows[p];
            for (int x = 0; x < ALL_POWERS; x++) {
                for (int g = 0; row[x] != 0 && g < group.size; g++) {
                    int code = powers.turnedCode(group.codes[g], x);
                    if (row[indexOfCode(code)] != signedNumber(code * sign[g], row[x])) {
                        return false;
                    }
                }
            }
            return true;
        }

        // Powers fall apart into lots that are turned to one another: in each lot just one polynomial stays, or none.
        int countLeft(int d, Group group, int[] sign) {
            int found = 0;
            int first = Powers.firstOf(d);
            for (int x = first; x < first + Powers.widthOf(d); x++) {
                found += isFirstOfLeft(x, group, sign) ? 1 : 0;
            }
            return found;
        }

        // A lot has none if some element turns powers to themselves with the wrong sign: then their mean is 0.
        private boolean isFirstOfLeft(int x, Group group, int[] sign) {
            for (int g = 0; g < group.size; g++) {
                int code = powers.turnedCode(group.codes[g], x);
                int to = indexOfCode(code);
                if (to < x || to == x && code * sign[g] < 0) {
                    return false;
                }
            }
            return true;
        }

        int valueAt(int p, int u, int v, int w) {
            fillLetterPowers(0, leftOver(u));
            fillLetterPowers(1, leftOver(v));
            fillLetterPowers(2, leftOver(w));
            int total = 0;
            for (int x = 0; x < ALL_POWERS; x++) {
                int term = rows[p][x];
                for (int letter = 0; letter < LETTERS && term != 0; letter++) {
                    term = term * letterPowers[letter][powers.of[letter][x]] % PRIME;
                }
                total = (total + term) % PRIME;
            }
            return total;
        }

        private void fillLetterPowers(int letter, int n) {
            int[] row = letterPowers[letter];
            row[0] = 1;
            for (int power = 1; power <= MOST_DEGREE; power++) {
                row[power] = row[power - 1] * n % PRIME;
            }
        }
    }

    /** The PRODUCTS of one degree, and those of them that are no sums of multiples of those ahead. */
    private static final class Layer {
        final int degree;
        final int width;
        final int most;
        int howMany;
        final int[][] often;
        final int[][] rows;
        final int[] leastFew;
        int free;
        final int[] freeProduct;
        // Row f is the sum of the free products, each times its number in mix f; it has 1 at its pivot, and there
        // the rows behind it have 0.
        final int[][] reduced;
        final int[][] mix;
        final int[] pivot;
        final int[] work;
        final int[] workMix;

        Layer(int degree) {
            this.degree = degree;
            width = Powers.widthOf(degree);
            most = degree >= 0 && degree < MOST_PRODUCTS.length ? MOST_PRODUCTS[degree] : 0;
            often = new int[most][MOST_FEW];
            rows = new int[most][width];
            leastFew = new int[most];
            freeProduct = new int[width];
            reduced = new int[width][width];
            mix = new int[width][width];
            pivot = new int[width];
            work = new int[width];
            workMix = new int[width];
        }

        void empty() {
            howMany = 0;
            free = 0;
        }

        boolean isFull() {
            return howMany >= most;
        }

        private void reduceWork() {
            for (int f = 0; f < free; f++) {
                int factor = work[pivot[f]];
                if (factor != 0) {
                    takeOff(work, reduced[f], factor, width);
                    takeOff(workMix, mix[f], factor, free);
                }
            }
        }

        private int firstOfWork() {
            for (int x = 0; x < width; x++) {
                if (work[x] != 0) {
                    return x;
                }
            }
            return NONE;
        }

        /** Whether the row is no sum of multiples of the free products; then it is kept as that product's. */
        boolean keepIfFree(int[] row, int product) {
            System.arraycopy(row, 0, work, 0, width);
            Arrays.fill(workMix, 0);
            reduceWork();
            int at = firstOfWork();
            if (at == NONE || free >= width) {
                return false;
            }
            workMix[free] = 1;
            int share = inverse(work[at]);
            for (int x = 0; x < width; x++) {
                reduced[free][x] = work[x] * share % PRIME;
                mix[free][x] = workMix[x] * share % PRIME;
            }
            pivot[free] = at;
            freeProduct[free] = product;
            free++;
            return true;
        }

        // What is taken off till nothing is left is, the other way round, what the polynomial is made of.
        void split(int[] polynomial, Parts parts) {
            System.arraycopy(polynomial, Powers.firstOf(degree), work, 0, width);
            Arrays.fill(workMix, 0);
            reduceWork();
            for (int f = 0; f < free; f++) {
                if (workMix[f] != 0) {
                    parts.add(PRIME - workMix[f], degree, often[freeProduct[f]]);
                }
            }
        }
    }

    /** THE FEW of THE GROUP, and the PRODUCTS of each degree. */
    private static final class Few {
        int howMany;
        boolean areFound;
        final int[] degree = new int[MOST_FEW];
        final int[] product = new int[MOST_FEW];
        final Layer[] layers = new Layer[MADE_DEGREE + 1];
        final int[] average;

        Few() {
            for (int d = 0; d <= MADE_DEGREE; d++) {
                layers[d] = new Layer(d);
            }
            average = new int[Powers.widthOf(MADE_DEGREE)];
        }

        boolean has(int i) {
            return i >= 0 && i < howMany;
        }

        void forget() {
            areFound = false;
        }

        // They are found when they are first asked for: most groups are never asked.
        void find(Group group, Powers powers) {
            if (areFound) {
                return;
            }
            howMany = 0;
            addProductOfNothing();
            for (int d = 1; d <= MADE_DEGREE; d++) {
                layers[d].empty();
                addProducts(layers[d], powers);
                addFew(layers[d], group, powers);
            }
            areFound = true;
        }

        private void addProductOfNothing() {
            Layer layer = layers[0];
            layer.empty();
            layer.rows[0][0] = 1;
            layer.leastFew[0] = MOST_FEW;
            layer.keepIfFree(layer.rows[0], 0);
            layer.howMany = 1;
        }

        // First all in which few 0 comes, once more than in what is left of them; then, of those without it, all in
        // which few 1 comes, and so on: that is the order of the products.
        private void addProducts(Layer layer, Powers powers) {
            for (int i = 0; i < howMany; i++) {
                int left = layer.degree - degree[i];
                if (left < 0 || left > MADE_DEGREE) {
                    continue;
                }
                Layer others = layers[left];
                for (int x = 0; x < others.howMany; x++) {
                    if (others.leastFew[x] >= i && !layer.isFull()) {
                        addProduct(layer, i, others, x, powers);
                    }
                }
            }
        }

        private void addProduct(Layer layer, int i, Layer others, int x, Powers powers) {
            int at = layer.howMany;
            System.arraycopy(others.often[x], 0, layer.often[at], 0, MOST_FEW);
            layer.often[at][i]++;
            layer.leastFew[at] = i;
            multiplyInto(layer.rows[at], layers[degree[i]], product[i], others, x, powers);
            layer.keepIfFree(layer.rows[at], at);
            layer.howMany++;
        }

        private static void multiplyInto(int[] target, Layer one, int a, Layer other, int b, Powers powers) {
            Arrays.fill(target, 0);
            int first = Powers.firstOf(one.degree);
            int otherFirst = Powers.firstOf(other.degree);
            int targetFirst = Powers.firstOf(one.degree + other.degree);
            for (int x = 0; x < one.width; x++) {
                int n = one.rows[a][x];
                for (int y = 0; n != 0 && y < other.width; y++) {
                    int at = powers.indexOfProduct(first + x, otherFirst + y) - targetFirst;
                    if (at >= 0 && at < target.length) {
                        target[at] = (target[at] + n * other.rows[b][y]) % PRIME;
                    }
                }
            }
        }

        private void addFew(Layer layer, Group group, Powers powers) {
            int share = inverse(group.size);
            for (int x = 0; x < layer.width; x++) {
                averagePowers(layer, x, group, powers, share);
                if (!layer.isFull() && howMany < MOST_FEW && layer.keepIfFree(average, layer.howMany)) {
                    addOne(layer);
                }
            }
        }

        private void averagePowers(Layer layer, int x, Group group, Powers powers, int share) {
            Arrays.fill(average, 0);
            int first = Powers.firstOf(layer.degree);
            for (int g = 0; g < group.size; g++) {
                int code = powers.turnedCode(group.codes[g], first + x);
                int at = indexOfCode(code) - first;
                if (at >= 0 && at < layer.width) {
                    average[at] = (average[at] + signedNumber(code, share)) % PRIME;
                }
            }
        }

        private void addOne(Layer layer) {
            int at = layer.howMany;
            System.arraycopy(average, 0, layer.rows[at], 0, layer.width);
            Arrays.fill(layer.often[at], 0);
            layer.often[at][howMany] = 1;
            layer.leastFew[at] = howMany;
            layer.howMany++;
            degree[howMany] = layer.degree;
            product[howMany] = at;
            howMany++;
        }

        int degreesTogether() {
            int result = 1;
            for (int i = 0; i < howMany; i++) {
                result *= degree[i];
            }
            return result;
        }

        void copyInto(int[] row, int i) {
            Layer layer = layers[degree[i]];
            Arrays.fill(row, 0);
            System.arraycopy(layer.rows[product[i]], 0, row, Powers.firstOf(layer.degree), layer.width);
        }

        void split(int[] row, Parts parts) {
            parts.begin(howMany);
            for (int d = 0; d <= MADE_DEGREE; d++) {
                layers[d].split(row, parts);
            }
        }
    }

    /** The PARTS that were told latest: copies, as the group may be made anew before they are asked for. */
    private static final class Parts {
        int howMany;
        int fewThen;
        final int[] multiple = new int[MOST_PARTS];
        final int[] degree = new int[MOST_PARTS];
        final int[][] often = new int[MOST_PARTS][MOST_FEW];

        void begin(int few) {
            howMany = 0;
            fewThen = few;
        }

        void add(int times, int ofDegree, int[] fewOften) {
            if (howMany < MOST_PARTS) {
                multiple[howMany] = times;
                degree[howMany] = ofDegree;
                System.arraycopy(fewOften, 0, often[howMany], 0, MOST_FEW);
                howMany++;
            }
        }

        int tell(int i, int what) {
            if (i < 0 || i >= howMany || what < 0 || what >= 2 + fewThen) {
                return NONE;
            }
            if (what == 0) {
                return multiple[i];
            }
            return what == 1 ? degree[i] : often[i][what - 2];
        }
    }

    /** The IMAGES that were told latest, and their PLACE. */
    private static final class Images {
        int howMany;
        boolean hasPlace;
        final int[] place = new int[LETTERS];
        final int[][] rows = new int[MOST_ELEMENTS][LETTERS];
        final int[] led = new int[LETTERS];

        void find(Group group, int u, int v, int w) {
            place[0] = u;
            place[1] = v;
            place[2] = w;
            hasPlace = true;
            howMany = 0;
            for (int g = 0; g < group.size; g++) {
                lead(group.codes[g]);
                if (!isLedKnown() && howMany < MOST_ELEMENTS) {
                    System.arraycopy(led, 0, rows[howMany], 0, LETTERS);
                    howMany++;
                }
            }
        }

        private void lead(int[] codes) {
            for (int letter = 0; letter < LETTERS; letter++) {
                led[indexOfCode(codes[letter])] = codes[letter] < 0 ? -place[letter] : place[letter];
            }
        }

        private boolean isLedTo(int u, int v, int w) {
            return led[0] == u && led[1] == v && led[2] == w;
        }

        private boolean isLedKnown() {
            for (int i = 0; i < howMany; i++) {
                if (isLedTo(rows[i][0], rows[i][1], rows[i][2])) {
                    return true;
                }
            }
            return false;
        }

        int tell(int i, int what) {
            return i >= 0 && i < howMany && what >= 0 && what < LETTERS ? rows[i][what] : 0;
        }

        int leastLeading(Group group, int u, int v, int w) {
            for (int g = 0; hasPlace && g < group.size; g++) {
                lead(group.codes[g]);
                if (isLedTo(u, v, w)) {
                    return g;
                }
            }
            return NONE;
        }
    }
}
