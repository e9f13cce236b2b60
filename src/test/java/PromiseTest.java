/** Each promise by its number: ordinary calls, the edges that the document names, and wrong arguments. */
public final class PromiseTest {
    private static final int LEAST = Integer.MIN_VALUE;
    private static final int GREATEST = Integer.MAX_VALUE;
    private static final int[] NO_INDEX = {-1, -2, LEAST, GREATEST};
    private static int promise = 0;
    private static int wrong = 0;

    private static void due(String what, long got, long want) {
        if (got != want) {
            wrong++;
            System.out.println("promise " + promise + ": " + what + ": " + got + ", due is " + want);
        }
    }

    private static void due(String what, boolean got, boolean want) {
        due(what, got ? 1 : 0, want ? 1 : 0);
    }

    /** An object whose group is made of these turns, told by their codes. */
    private static TurnBench of(int... codes) {
        TurnBench x = new TurnBench();
        for (int i = 0; i + 2 < codes.length; i += 3) {
            due("turn", x.turn(i / 3, codes[i], codes[i + 1], codes[i + 2]), true);
        }
        x.group();
        return x;
    }

    private static TurnBench cube() {
        return of(2, 3, 1, 2, 1, 3, -1, 2, 3);
    }

    public static void main(String[] args) {
        Runnable[] promises = {
            PromiseTest::newObject, PromiseTest::turn, PromiseTest::drop, PromiseTest::group, PromiseTest::about,
            PromiseTest::element, PromiseTest::times, PromiseTest::ofElement, PromiseTest::sign, PromiseTest::put,
            PromiseTest::number, PromiseTest::degree, PromiseTest::sum, PromiseTest::product, PromiseTest::turned,
            PromiseTest::mean, PromiseTest::stays, PromiseTest::count, PromiseTest::series, PromiseTest::few,
            PromiseTest::laws, PromiseTest::made, PromiseTest::part, PromiseTest::value, PromiseTest::images,
            PromiseTest::image, PromiseTest::leads};
        for (Runnable one : promises) {
            promise++;
            one.run();
        }
        due("how many promises", promise, 27);
        System.out.println(wrong == 0 ? "all promises hold" : wrong + " answers are not as due");
        if (wrong != 0) {
            System.exit(1);
        }
    }

    private static void newObject() {
        TurnBench x = new TurnBench();
        due("elements", x.about(0), 1);
        due("element 0, letter 0", x.element(0, 0), 1);
        due("element 0, letter 1", x.element(0, 1), 2);
        due("element 0, letter 2", x.element(0, 2), 3);
        for (int i = 0; i < 4; i++) {
            due("drop of an untold turn", x.drop(i), false);
        }
        for (int p = 0; p < 8; p++) {
            due("degree", x.degree(p), -1);
        }
        due("signs", x.about(3), 1);
        due("sign", x.sign(0, 0), 1);
        due("group of no turns", x.group(), 1);
    }

    private static void turn() {
        TurnBench x = new TurnBench();
        due("all turned", x.turn(3, -3, -2, -1), true);
        due("group stays", x.about(0), 1);
        due("made", x.group(), 2);
        int[][] wrongCodes = {{0, 2, 3}, {1, 0, 3}, {1, 2, 0}, {1, 1, 2}, {1, -1, 2}, {2, 1, 2}, {3, 2, -2},
            {4, 2, 3}, {1, -4, 3}, {LEAST, 2, 3}, {1, GREATEST, 3}, {1, 2, LEAST}};
        for (int[] c : wrongCodes) {
            due("wrong codes", x.turn(3, c[0], c[1], c[2]), false);
        }
        for (int i : NO_INDEX) {
            due("wrong turn", x.turn(i, 1, 2, 3), false);
        }
        due("turn 4", x.turn(4, 1, 2, 3), false);
        due("nothing was done", x.group(), 2);
        due("still that one", x.element(1, 0), -3);
        due("told anew", x.turn(3, 2, 3, 1), true);
        due("group stays", x.element(1, 0), -3);
        due("made anew", x.group(), 3);
    }

    private static void drop() {
        TurnBench x = of(2, 1, 3);
        due("told", x.drop(0), true);
        due("told no more", x.drop(0), false);
        due("group stays", x.about(0), 2);
        due("made without it", x.group(), 1);
        for (int i : NO_INDEX) {
            due("wrong turn", x.drop(i), false);
        }
        due("turn 4", x.drop(4), false);
        due("told again", x.turn(0, 2, 1, 3), true);
        due("told", x.drop(0), true);
    }

    private static void group() {
        due("all", cube().group(), 48);
        due("rotations of the cube", of(2, -1, 3, 2, 3, 1).group(), 24);
        due("signs alone", of(-1, 2, 3, 1, -2, 3, 1, 2, -3).group(), 8);
        due("the one that leaves all, told", of(1, 2, 3).group(), 1);
        due("one turn twice", of(2, 1, 3, 2, 1, 3).group(), 2);
        // element 0 and both turns, then turn 0 twice, turn 0 and then turn 1, turn 1 and then turn 0
        TurnBench x = of(2, 3, 1, 2, 1, 3);
        int[][] order = {{1, 2, 3}, {2, 3, 1}, {2, 1, 3}, {3, 1, 2}, {1, 3, 2}, {3, 2, 1}};
        for (int g = 0; g < 6; g++) {
            for (int i = 0; i < 3; i++) {
                due("order of making, " + g, x.element(g, i), order[g][i]);
            }
        }
        TurnBench y = new TurnBench();
        y.turn(2, 2, 3, 1);
        y.turn(1, 2, 1, 3);
        y.group();
        due("by the turns' numbers, not by when they were told", y.element(1, 1), 1);
    }

    private static void about() {
        TurnBench none = new TurnBench();
        int[] alone = {1, 0, 1, 1, 0, 1, 3, 1};
        TurnBench order = of(2, 3, 1, 2, 1, 3);
        int[] six = {6, 1, 3, 2, 3, 1, 3, 6};
        TurnBench back = of(-1, -2, -3);
        int[] two = {2, 0, 2, 2, 0, 0, 6, 64};
        TurnBench fourRing = of(2, -1, 3);
        int[] four = {4, 0, 4, 2, 0, 0, 4, 32};
        TurnBench tetrahedron = of(2, 3, 1, -1, -2, 3);
        int[] twelve = {12, 2, 4, 1, 0, 0, 4, 144};
        TurnBench prism = of(-1, 2, 3, 1, -2, 3, 1, 2, -3);
        int[] eight = {8, 2, 8, 8, 3, 1, 3, 8};
        TurnBench rotations = of(2, -1, 3, 2, 3, 1);
        int[] noMirrors = {24, 2, 5, 2, 0, 0, 3, 48};
        // {1, -1 on one letter} has a mirror, and what turns all to the other side besides is no product of it
        TurnBench some = of(-1, 2, 3, -1, -2, -3);
        int[] someMirrors = {4, 2, 4, 4, 1, 0, 4, 16};
        for (int what = 0; what < 8; what++) {
            due("of nothing, " + what, none.about(what), alone[what]);
            due("of all orders, " + what, order.about(what), six[what]);
            due("of all signs at once, " + what, back.about(what), two[what]);
            due("of a ring of four, " + what, fourRing.about(what), four[what]);
            due("of the tetrahedron, " + what, tetrahedron.about(what), twelve[what]);
            due("of all signs, " + what, prism.about(what), eight[what]);
            due("of the cube's rotations, " + what, rotations.about(what), noMirrors[what]);
            due("of some mirrors, " + what, some.about(what), someMirrors[what]);
        }
        for (int what : NO_INDEX) {
            due("another what", none.about(what), -1);
        }
        due("what 8", none.about(8), -1);
        order.turn(0, 1, 2, 3);
        order.turn(1, 1, 2, 3);
        due("few stay till the group is made", order.about(7), 6);
        order.group();
        due("few of the new group", order.about(7), 1);
    }

    private static void element() {
        TurnBench x = of(-2, 3, 1);
        due("letter 0", x.element(1, 0), -2);
        due("letter 1", x.element(1, 1), 3);
        due("letter 2", x.element(1, 2), 1);
        // first the one, then the other: 0 goes to 1 with the sign, then 1 to 2
        due("letter 0, twice", x.element(2, 0), -3);
        due("letter 2, twice", x.element(2, 2), -2);
        due("letter 3", x.element(1, 3), 0);
        due("element 6", x.element(6, 0), 0);
        for (int i : NO_INDEX) {
            due("wrong letter", x.element(1, i), 0);
            due("wrong element", x.element(i, 0), 0);
        }
    }

    private static void times() {
        TurnBench x = of(2, 3, 1, 2, 1, 3);
        due("first the ring, then the swap", x.times(1, 2), 4);
        due("first the swap, then the ring", x.times(2, 1), 5);
        due("the ring twice", x.times(1, 1), 3);
        due("0 ahead", x.times(0, 5), 5);
        due("0 behind", x.times(5, 0), 5);
        due("one more", x.times(6, 0), -1);
        due("one more behind", x.times(0, 6), -1);
        for (int g : NO_INDEX) {
            due("none", x.times(g, 0), -1);
            due("none behind", x.times(0, g), -1);
        }
    }

    private static void ofElement() {
        TurnBench x = of(2, -1, 3);
        int[] backs = {0, 3, 2, 1};
        int[] orders = {1, 4, 2, 4};
        for (int g = 0; g < 4; g++) {
            due("back of " + g, x.of(g, 0), backs[g]);
            due("order of " + g, x.of(g, 1), orders[g]);
            due("class of " + g, x.of(g, 2), g);
            due("mirror " + g, x.of(g, 3), 0);
        }
        TurnBench y = of(2, 3, 1, 2, 1, 3);
        int[] classes = {0, 1, 2, 1, 2, 2};
        int[] mirrors = {0, 0, 1, 0, 1, 1};
        for (int g = 0; g < 6; g++) {
            due("class of " + g, y.of(g, 2), classes[g]);
            due("mirror " + g, y.of(g, 3), mirrors[g]);
        }
        due("a mirror of one letter", of(1, -2, 3).of(1, 3), 1);
        due("a mirror of two letters with signs", of(-2, -1, 3).of(1, 3), 1);
        due("no mirror: it leaves a line", of(2, 1, -3).of(1, 3), 0);
        due("no mirror: it leaves nothing", of(-1, -2, -3).of(1, 3), 0);
        due("what 4", y.of(0, 4), -1);
        due("element 6", y.of(6, 0), -1);
        for (int i : NO_INDEX) {
            due("another what", y.of(0, i), -1);
            due("no element", y.of(i, 0), -1);
        }
    }

    private static void sign() {
        TurnBench x = of(-1, 2, 3, 1, -2, 3);
        int[][] rows = {{1, 1, 1, 1}, {1, 1, -1, -1}, {1, -1, 1, -1}, {1, -1, -1, 1}};
        for (int c = 0; c < 4; c++) {
            for (int g = 0; g < 4; g++) {
                due("sign " + c + " of " + g, x.sign(c, g), rows[c][g]);
            }
        }
        due("sign 4", x.sign(4, 0), 0);
        due("element 4", x.sign(0, 4), 0);
        for (int i : NO_INDEX) {
            due("no sign", x.sign(i, 0), 0);
            due("no element", x.sign(0, i), 0);
        }
        due("a ring of three has one sign", of(2, 3, 1).sign(1, 0), 0);
        // a turn that is another done twice is given 1 by each
        TurnBench y = of(-1, -2, 3, 2, -1, 3);
        due("signs", y.about(3), 2);
        due("of the first turn", y.sign(1, 1), 1);
        due("of the second", y.sign(1, 2), -1);
    }

    private static void put() {
        TurnBench x = new TurnBench();
        due("put", x.put(7, 1, 2, 3, 32004), true);
        due("by what is left over", x.number(7, 1, 2, 3), 1);
        due("less than 0", x.put(7, 1, 2, 3, -1), true);
        due("0 or more", x.number(7, 1, 2, 3), 32002);
        due("the least int", x.put(7, 8, 0, 0, LEAST), true);
        due("what is left of it", x.number(7, 8, 0, 0), Math.floorMod(LEAST, 32003));
        due("the greatest int", x.put(7, 0, 8, 0, GREATEST), true);
        due("what is left of it", x.number(7, 0, 8, 0), GREATEST % 32003);
        due("in the place of the old one", x.put(7, 0, 8, 0, 0), true);
        due("0", x.number(7, 0, 8, 0), 0);
        due("degree 9", x.put(0, 3, 3, 3, 1), false);
        due("power 9", x.put(0, 9, 0, 0, 1), false);
        due("less than 0 among them", x.put(0, 9, -1, 0, 1), false);
        due("sums that wrap", x.put(0, GREATEST, GREATEST, 2, 1), false);
        for (int i : NO_INDEX) {
            due("no polynomial", x.put(i, 0, 0, 0, 1), false);
            due("no power", x.put(0, i, 0, 0, 1), false);
            due("no power", x.put(0, 0, i, 0, 1), false);
            due("no power", x.put(0, 0, 0, i, 1), false);
        }
        due("polynomial 8", x.put(8, 0, 0, 0, 1), false);
        due("nothing was done", x.degree(0), -1);
    }

    private static void number() {
        TurnBench x = new TurnBench();
        int n = 0;
        for (int i = 0; i <= 8; i++) {
            for (int j = 0; i + j <= 8; j++) {
                for (int k = 0; i + j + k <= 8; k++) {
                    n++;
                    due("put", x.put(3, i, j, k, n), true);
                }
            }
        }
        due("how many there are", n, 165);
        n = 0;
        for (int i = 0; i <= 8; i++) {
            for (int j = 0; i + j <= 8; j++) {
                for (int k = 0; i + j + k <= 8; k++) {
                    n++;
                    due("each has its own place", x.number(3, i, j, k), n);
                }
            }
        }
        due("degree 9", x.number(3, 8, 1, 0), 0);
        due("another polynomial", x.number(2, 0, 0, 0), 0);
        due("polynomial 8", x.number(8, 0, 0, 0), 0);
        for (int i : NO_INDEX) {
            due("no polynomial", x.number(i, 0, 0, 0), 0);
            due("no power", x.number(3, i, 0, 0), 0);
            due("no power", x.number(3, 0, i, 0), 0);
            due("no power", x.number(3, 0, 0, i), 0);
        }
    }

    private static void degree() {
        TurnBench x = new TurnBench();
        due("of 0", x.degree(0), -1);
        x.put(0, 0, 0, 0, 5);
        due("of a number", x.degree(0), 0);
        x.put(0, 0, 0, 8, 1);
        x.put(0, 2, 0, 1, 1);
        due("the greatest", x.degree(0), 8);
        x.put(0, 0, 0, 8, 32003);
        due("when the greatest is 0", x.degree(0), 3);
        due("polynomial 8", x.degree(8), -1);
        for (int p : NO_INDEX) {
            due("no polynomial", x.degree(p), -1);
        }
    }

    private static void sum() {
        TurnBench x = new TurnBench();
        x.put(0, 1, 0, 0, 32002);
        x.put(0, 0, 0, 0, 4);
        x.put(1, 1, 0, 0, 32002);
        x.put(1, 0, 2, 0, 1);
        due("sum", x.sum(2, 0, 32002, 1, 32002), 2);
        due("both", x.number(2, 1, 0, 0), 2);
        due("one", x.number(2, 0, 0, 0), 31999);
        due("the other", x.number(2, 0, 2, 0), 32002);
        due("into itself", x.sum(0, 0, 2, 0, LEAST), 1);
        due("any ints", x.number(0, 0, 0, 0), Math.floorMod(4L * (2L + LEAST), 32003L));
        due("to 0", x.sum(0, 0, 1, 0, -1), -1);
        due("times the prime", x.sum(2, 1, 32003, 1, 0), -1);
        due("from r into r", x.sum(1, 0, 1, 1, 3), 2);
        due("three times", x.number(1, 0, 2, 0), 3);
        due("polynomial 8", x.sum(8, 0, 1, 0, 1), -2);
        for (int p : NO_INDEX) {
            due("no p", x.sum(p, 1, 1, 1, 1), -2);
            due("no q", x.sum(1, p, 1, 1, 1), -2);
            due("no r", x.sum(1, 1, 1, p, 1), -2);
        }
        due("nothing was done", x.number(1, 0, 2, 0), 3);
    }

    private static void product() {
        TurnBench x = new TurnBench();
        x.put(0, 1, 0, 0, 1);
        x.put(0, 0, 1, 0, -1);
        x.put(0, 0, 0, 0, 2);
        due("square, into itself", x.product(0, 0, 0), 2);
        due("x x", x.number(0, 2, 0, 0), 1);
        due("x y", x.number(0, 1, 1, 0), 32001);
        due("y y", x.number(0, 0, 2, 0), 1);
        due("x", x.number(0, 1, 0, 0), 4);
        due("y", x.number(0, 0, 1, 0), 31999);
        due("1", x.number(0, 0, 0, 0), 4);
        x.put(1, 3, 2, 1, 32002);
        due("8 together", x.product(2, 1, 0), 8);
        due("its greatest", x.number(2, 5, 2, 1), 32002);
        due("above 8", x.product(1, 2, 0), -2);
        due("nothing was done", x.number(1, 3, 2, 1), 32002);
        x.put(3, 0, 0, 8, 9);
        due("8 and 0", x.product(4, 3, 5), -1);
        x.put(5, 0, 0, 0, 3);
        due("8 and a number", x.product(4, 5, 3), 8);
        due("that number", x.number(4, 0, 0, 8), 27);
        due("8 and 1", x.put(5, 0, 0, 1, 1), true);
        due("above 8", x.product(4, 5, 3), -2);
        due("polynomial 8", x.product(0, 8, 0), -2);
        for (int p : NO_INDEX) {
            due("no p", x.product(p, 1, 5), -2);
            due("no q", x.product(1, p, 5), -2);
            due("no r", x.product(1, 5, p), -2);
        }
    }

    private static void turned() {
        TurnBench x = of(-2, 3, 1);
        x.put(0, 1, 2, 4, 5);
        x.put(0, 0, 0, 0, 7);
        due("turned", x.turned(1, 0, 1), 7);
        due("letter 0 is less letter 1, letter 1 is letter 2, letter 2 is letter 0", x.number(1, 4, 1, 2), 31998);
        due("a number stays", x.number(1, 0, 0, 0), 7);
        due("into itself", x.turned(0, 0, 1), 7);
        due("into itself", x.number(0, 4, 1, 2), 31998);
        due("and no more", x.number(0, 1, 2, 4), 0);
        due("turned twice is turned by both together", x.turned(0, 0, 1), 7);
        x.put(1, 4, 1, 2, 0);
        x.put(1, 1, 2, 4, 5);
        x.turned(1, 1, x.times(1, 1));
        due("so", x.sum(2, 0, 1, 1, -1), -1);
        due("0", x.turned(3, 4, 2), -1);
        due("element 6", x.turned(3, 4, 6), -2);
        due("polynomial 8", x.turned(8, 4, 0), -2);
        for (int i : NO_INDEX) {
            due("no p", x.turned(i, 0, 0), -2);
            due("no q", x.turned(0, i, 0), -2);
            due("no element", x.turned(0, 1, i), -2);
        }
    }

    private static void mean() {
        TurnBench x = of(-2, 1, 3);
        x.put(0, 3, 1, 0, 8);
        // x x x y is turned to -y y y x, x x x y, -y y y x, x x x y: half of each
        due("mean", x.mean(1, 0, 0), 4);
        due("x x x y", x.number(1, 3, 1, 0), 4);
        due("x y y y", x.number(1, 1, 3, 0), 31999);
        due("for the other sign", x.mean(0, 0, 1), 4);
        due("x x x y", x.number(0, 3, 1, 0), 4);
        due("x y y y", x.number(0, 1, 3, 0), 4);
        due("of one that goes", x.mean(2, 1, 1), -1);
        x.put(3, 1, 0, 1, 1);
        due("of one that goes", x.mean(3, 3, 0), -1);
        due("sign 2", x.mean(1, 0, 2), -2);
        due("polynomial 8", x.mean(1, 8, 0), -2);
        for (int i : NO_INDEX) {
            due("no p", x.mean(i, 0, 0), -2);
            due("no q", x.mean(1, i, 0), -2);
            due("no sign", x.mean(1, 0, i), -2);
        }
        due("nothing was done", x.number(1, 3, 1, 0), 4);
        TurnBench y = cube();
        y.put(0, 2, 0, 0, 3);
        y.mean(0, 0, 0);
        due("the 48th part of 16 times 3", y.number(0, 0, 2, 0), 1);
    }

    private static void stays() {
        TurnBench x = of(2, 1, 3, 1, 2, -3);
        x.put(0, 2, 0, 2, 5);
        due("without its like", x.stays(0, 0), 0);
        x.put(0, 0, 2, 2, 5);
        due("with it", x.stays(0, 0), 1);
        x.put(0, 0, 2, 2, -5);
        due("with it, less", x.stays(0, 0), 0);
        int kept = signsForWhichStays(x, 0);
        due("for one sign alone", Integer.bitCount(kept), 1);
        due("that gives the swap -1 and the other 1", x.sign(Integer.numberOfTrailingZeros(kept), 1), -1);
        due("that gives the swap -1 and the other 1", x.sign(Integer.numberOfTrailingZeros(kept), 2), 1);
        due("0 stays for all", signsForWhichStays(x, 1), 15);
        x.put(1, 8, 0, 0, 1);
        due("of degree 8", x.stays(1, 0), 0);
        x.put(1, 0, 8, 0, 1);
        due("of degree 8", x.stays(1, 0), 1);
        due("sign 4", x.stays(0, 4), -1);
        due("polynomial 8", x.stays(8, 0), -1);
        for (int i : NO_INDEX) {
            due("no polynomial", x.stays(i, 0), -1);
            due("no sign", x.stays(0, i), -1);
        }
    }

    private static int signsForWhichStays(TurnBench x, int p) {
        int bits = 0;
        for (int c = 0; c < x.about(3); c++) {
            bits |= x.stays(p, c) == 1 ? 1 << c : 0;
        }
        return bits;
    }

    private static void count() {
        TurnBench x = of(2, 3, 1, 2, 1, 3);
        int[] symmetric = {1, 1, 2, 3, 4, 5, 7, 8, 10};
        int[] alternating = {0, 0, 0, 1, 1, 2, 3, 4, 5};
        for (int d = 0; d <= 8; d++) {
            due("of degree " + d, x.count(d, 0), symmetric[d]);
            due("alternating of degree " + d, x.count(d, 1), alternating[d]);
            due("of nothing", new TurnBench().count(d, 0), (d + 1) * (d + 2) / 2);
        }
        due("degree 9", x.count(9, 0), -1);
        due("sign 2", x.count(0, 2), -1);
        for (int i : NO_INDEX) {
            due("no degree", x.count(i, 0), -1);
            due("no sign", x.count(1, i), -1);
        }
    }

    private static void series() {
        TurnBench[] all = {new TurnBench(), of(2, 3, 1, 2, 1, 3), cube(), of(2, -1, -3), of(-1, -2, -3),
            of(-1, 2, 3, 1, -2, 3, 1, 2, -3)};
        for (TurnBench x : all) {
            for (int c = 0; c < x.about(3); c++) {
                for (int d = 0; d <= 8; d++) {
                    due("counted in two ways", x.series(d, c), x.count(d, c));
                }
            }
        }
        due("of all signs at once, even", all[4].series(200, 0), 20301);
        due("of all signs at once, odd", all[4].series(199, 0), 0);
        due("of all signs at once, odd, the other sign", all[4].series(199, 1), 20100);
        // as many as there are ways to make 200 of 2, 4 and 6
        due("of the cube", all[2].series(200, 0), 884);
        due("degree 201", all[0].series(201, 0), -1);
        due("sign 1", all[0].series(0, 1), -1);
        for (int i : NO_INDEX) {
            due("no degree", all[0].series(i, 0), -1);
            due("no sign", all[0].series(0, i), -1);
        }
    }

    private static void few() {
        TurnBench x = of(-1, -2, -3);
        int[][] powers = {{2, 0, 0}, {1, 1, 0}, {1, 0, 1}, {0, 2, 0}, {0, 1, 1}, {0, 0, 2}};
        for (int i = 0; i < 6; i++) {
            due("few " + i, x.few(0, i), 2);
            due("in the order of powers", x.number(0, powers[i][0], powers[i][1], powers[i][2]), 1);
            x.put(0, powers[i][0], powers[i][1], powers[i][2], 0);
            due("and nothing else", x.degree(0), -1);
        }
        due("few 6", x.few(0, 6), -2);
        TurnBench y = of(2, 3, 1);
        y.put(1, 7, 0, 0, 3);
        due("the sum's third part", y.few(1, 0), 1);
        due("in the place of what was there", y.number(1, 7, 0, 0), 0);
        due("a third", y.number(1, 0, 1, 0), 10668);
        due("squares", y.few(1, 1), 2);
        due("x x", y.number(1, 2, 0, 0), 10668);
        due("cubes", y.few(1, 2), 3);
        due("x x x", y.number(1, 3, 0, 0), 10668);
        due("the one that is not symmetric", y.few(1, 3), 3);
        due("x x y", y.number(1, 2, 1, 0), 10668);
        due("x y y", y.number(1, 1, 2, 0), 0);
        due("few 4", y.few(1, 4), -2);
        due("polynomial 8", y.few(8, 0), -2);
        for (int i : NO_INDEX) {
            due("no polynomial", y.few(i, 0), -2);
            due("no few", y.few(1, i), -2);
        }
        due("nothing was done", y.degree(1), 3);
        int[] degrees = {2, 2, 4, 4, 6, 6};
        TurnBench z = of(-2, -3, -1);
        for (int i = 0; i < 6; i++) {
            due("degrees", z.few(0, i), degrees[i]);
        }
    }

    private static void laws() {
        TurnBench x = of(-1, -2, -3);
        int[] products = {1, 0, 6, 0, 21, 0, 56};
        int[] laws = {0, 0, 0, 0, 6, 0, 28};
        TurnBench y = of(2, -1, -3);
        int[] products2 = {1, 0, 2, 2, 5, 4, 11};
        int[] laws2 = {0, 0, 0, 0, 0, 0, 3};
        for (int d = 0; d <= 6; d++) {
            due("products of degree " + d, x.laws(d, 0), products[d]);
            due("laws of degree " + d, x.laws(d, 1), laws[d]);
            due("products of degree " + d, y.laws(d, 0), products2[d]);
            due("laws of degree " + d, y.laws(d, 1), laws2[d]);
        }
        due("degree 7", x.laws(7, 0), -1);
        due("what 2", x.laws(6, 2), -1);
        for (int i : NO_INDEX) {
            due("no degree", x.laws(i, 0), -1);
            due("another what", x.laws(6, i), -1);
        }
    }

    private static void made() {
        TurnBench x = of(2, 3, 1, 2, 1, 3);
        due("0", x.made(0), 0);
        x.put(0, 1, 1, 1, 1);
        due("the product of all letters", x.made(0), 3);
        x.put(0, 0, 0, 0, 1);
        due("and a number", x.made(0), 4);
        x.put(0, 1, 0, 0, 1);
        due("it does not stay", x.made(0), -1);
        x.put(1, 2, 2, 2, 1);
        // the square of 9 a a a / 2 - 9 a b / 2 + c, a, b, c being the few
        due("of degree 6", x.made(1), 6);
        x.put(1, 3, 2, 2, 1);
        x.put(1, 2, 3, 2, 1);
        x.put(1, 2, 2, 3, 1);
        due("of degree 7, it stays", x.stays(1, 0), 1);
        due("of degree 7", x.made(1), -1);
        due("polynomial 8", x.made(8), -1);
        for (int p : NO_INDEX) {
            due("no polynomial", x.made(p), -1);
        }
        TurnBench y = of(2, 1, 3);
        y.put(0, 1, 0, 0, 1);
        y.put(0, 0, 1, 0, -1);
        due("it stays for another sign", y.stays(0, 1), 1);
        due("so it is not made", y.made(0), -1);
    }

    private static void part() {
        TurnBench x = of(2, 3, 1, 2, 1, 3);
        due("ahead of any made", x.part(0, 0), -1);
        x.put(0, 1, 1, 1, 2);
        x.put(0, 0, 0, 0, 5);
        due("made", x.made(0), 4);
        // with the means a, b, c of x, x x, x x x: x y z is 27 a a a / 6 - 9 a b 3 / 6 + 6 c / 6
        int[][] parts = {{5, 0, 0, 0, 0}, {9, 3, 3, 0, 0}, {31994, 3, 1, 1, 0}, {2, 3, 0, 0, 1}};
        x.put(0, 0, 0, 0, 0);
        x.put(0, 1, 0, 0, 1);
        due("not made", x.made(0), -1);
        x.turn(0, -1, -2, -3);
        x.turn(1, 1, 2, 3);
        x.group();
        x.few(1, 5);
        for (int i = 0; i < 4; i++) {
            for (int what = 0; what < 5; what++) {
                due("part " + i + ", " + what, x.part(i, what), parts[i][what]);
            }
            due("few 3", x.part(i, 5), -1);
        }
        due("part 4", x.part(4, 0), -1);
        for (int i : NO_INDEX) {
            due("no part", x.part(i, 0), -1);
            due("another what", x.part(0, i), -1);
        }
        // of 6 few with laws among them: few 0 with few 3 is few 1 twice, which comes behind it
        x.put(2, 2, 2, 0, 9);
        due("one part", x.made(2), 1);
        int[] one = {9, 4, 1, 0, 0, 1, 0, 0};
        for (int what = 0; what < 8; what++) {
            due("its " + what, x.part(0, what), one[what]);
        }
        due("no more", x.part(0, 8), -1);
        due("no second one", x.part(1, 0), -1);
    }

    private static void value() {
        TurnBench x = new TurnBench();
        due("of 0", x.value(0, 1, 2, 3), 0);
        x.put(0, 0, 0, 0, 7);
        x.put(0, 1, 2, 3, 2);
        due("value", x.value(0, 2, 3, -1), 32003 + 7 - 36);
        due("at 0", x.value(0, 0, 0, 0), 7);
        due("by what is left over", x.value(0, 2 + 32003, 3 - 64006, 32002), 32003 + 7 - 36);
        x.put(1, 8, 0, 0, 32002);
        due("of degree 8", x.value(1, 32002, 0, 0), 32002);
        due("two to the power of 8", x.value(1, 2, 0, 0), 32003 - 256);
        x.put(2, 1, 0, 0, 1);
        due("the least int", x.value(2, LEAST, 0, 0), Math.floorMod(LEAST, 32003));
        x.put(2, 1, 0, 0, 0);
        x.put(2, 0, 0, 1, 1);
        due("the greatest int", x.value(2, 0, 0, GREATEST), GREATEST % 32003);
        due("polynomial 8", x.value(8, 0, 0, 0), -1);
        for (int p : NO_INDEX) {
            due("no polynomial", x.value(p, 0, 0, 0), -1);
        }
    }

    private static void images() {
        due("of nothing", new TurnBench().images(1, 2, 3), 1);
        TurnBench x = cube();
        due("all unlike", x.images(1, 2, 3), 48);
        due("one 0", x.images(0, 2, 3), 24);
        due("all alike", x.images(5, 5, -5), 8);
        due("nothing", x.images(0, 0, 0), 1);
        due("of a ring", of(2, 3, 1).images(4, 4, 4), 1);
        due("the least int is its own other side", of(-1, 2, 3).images(LEAST, 1, 1), 1);
    }

    private static void image() {
        TurnBench x = of(-2, 3, 1);
        due("ahead of any images", x.image(0, 0), 0);
        due("six", x.images(1, 2, 3), 6);
        // 0 goes to 1 with the sign, 1 to 2, 2 to 0: at 1 stands -1, at 2 stands 2, at 0 stands 3
        int[][] places = {{1, 2, 3}, {3, -1, 2}, {2, -3, -1}, {-1, -2, -3}, {-3, 1, -2}, {-2, 3, 1}};
        for (int i = 0; i < 6; i++) {
            for (int what = 0; what < 3; what++) {
                due("image " + i + ", " + what, x.image(i, what), places[i][what]);
            }
        }
        x.drop(0);
        x.group();
        due("they stay those of the latest images", x.image(5, 0), -2);
        due("image 6", x.image(6, 0), 0);
        due("what 3", x.image(0, 3), 0);
        for (int i : NO_INDEX) {
            due("no image", x.image(i, 0), 0);
            due("another what", x.image(0, i), 0);
        }
        due("anew", x.images(7, 8, 9), 1);
        due("the only one", x.image(0, 2), 9);
        due("no second one", x.image(1, 0), 0);
    }

    private static void leads() {
        TurnBench x = of(-2, 3, 1);
        due("ahead of any images", x.leads(0, 0, 0), -1);
        x.images(1, 2, 3);
        due("itself", x.leads(1, 2, 3), 0);
        due("by the turn", x.leads(3, -1, 2), 1);
        due("by none", x.leads(3, 1, 2), -1);
        x.images(0, 0, 0);
        due("the least", x.leads(0, 0, 0), 0);
        due("not the place before", x.leads(1, 2, 3), -1);
        TurnBench y = of(1, 2, -3, 2, 1, 3);
        y.images(4, 5, 0);
        due("the least of two", y.leads(5, 4, 0), 2);
        y.images(LEAST, 5, 1);
        due("the least int", y.leads(5, LEAST, -1), y.times(1, 2));
    }
}
