/** The edges that promises 1 to 9 name, of turns, groups, elements and signs: each test is of one sentence. */
public final class GroupEdgeTest {
    private static final int NONE = TurnBench.NONE;

    public static void main(String[] args) {
        Sentences.run(GroupEdgeTest.class, "Promise 1", "Promise 2", "Promise 3", "Promise 4", "Promise 5", "Promise 6",
            "Promise 7", "Promise 8", "Promise 9");
    }

    private static void due(String call, long got, long want) {
        Sentences.due(call, got, want);
    }

    private static void due(String call, boolean got, boolean want) {
        Sentences.due(call, got, want);
    }

    // ---- Promise 1: a new object

    @Sentence(at = "Promise 1", text = "No TURNS")
    static void p01_noTurns() {
        TurnBench x = new TurnBench();
        for (int i = 0; i < 4; i++) {
            due("drop(" + i + ")", x.drop(i), false);
        }
        due("group()", x.group(), 1);
    }

    @Sentence(at = "Promise 1", text = "ELEMENT 0 alone")
    static void p01_element0Alone() {
        TurnBench x = new TurnBench();
        int[] about = {1, 0, 1, 1, 0, 1, 3, 1};
        for (int what = 0; what < 8; what++) {
            due("about(" + what + ")", x.about(what), about[what]);
        }
        for (int i = 0; i < 3; i++) {
            due("element(0, " + i + ")", x.element(0, i), i + 1);
            due("element(1, " + i + ")", x.element(1, i), 0);
        }
        due("times(0, 0)", x.times(0, 0), 0);
        due("times(0, 1)", x.times(0, 1), NONE);
        due("of(0, 0)", x.of(0, 0), 0);
        due("of(0, 1)", x.of(0, 1), 1);
        due("of(0, 2)", x.of(0, 2), 0);
        due("sign(0, 0)", x.sign(0, 0), 1);
        due("sign(1, 0)", x.sign(1, 0), 0);
        due("images(1, 2, 3)", x.images(1, 2, 3), 1);
    }

    @Sentence(at = "Promise 1", text = "all POLYNOMIALS 0.")
    static void p01_allPolynomials0() {
        for (int p = 0; p < 8; p++) {
            TurnBench x = new TurnBench();
            due("degree(" + p + ")", x.degree(p), NONE);
            for (int i = 0; i <= 8; i++) {
                for (int j = 0; i + j <= 8; j++) {
                    for (int k = 0; i + j + k <= 8; k++) {
                        due("number(" + p + ", " + i + ", " + j + ", " + k + ")", x.number(p, i, j, k), 0);
                    }
                }
            }
        }
    }

    @Sentence(at = "Promise 1", text = "all POLYNOMIALS 0.")
    static void p01_objectsHaveTheirOwn() {
        TurnBench x = new TurnBench();
        x.turn(0, 2, 1, 3);
        x.group();
        x.put(0, 1, 1, 0, 5);
        x.made(0);
        x.images(1, 2, 3);
        TurnBench y = new TurnBench();
        due("degree(0) of another", y.degree(0), NONE);
        due("drop(0) of another", y.drop(0), false);
        due("about(0) of another", y.about(0), 1);
        due("part(0, 0) of another", y.part(0, 0), NONE);
        due("image(0, 0) of another", y.image(0, 0), 0);
        due("leads(1, 2, 3) of another", y.leads(1, 2, 3), NONE);
        due("the first stays", x.number(0, 1, 1, 0), 5);
    }

    // ---- Promise 2: turn

    @Sentence(at = "Promise 2", text = "TURN i (0 .. 3) is told by the CODES of LETTERS 0, 1, 2: true")
    static void p02_firstAndLastTurn() {
        for (int i = 0; i < 4; i++) {
            TurnBench x = new TurnBench();
            due("turn(" + i + ", -3, 1, -2)", x.turn(i, -3, 1, -2), true);
            due("group()", x.group(), 3);
            due("letter 0", x.element(1, 0), -3);
            due("letter 1", x.element(1, 1), 1);
            due("letter 2", x.element(1, 2), -2);
            for (int other = 0; other < 4; other++) {
                due("drop(" + other + ")", x.drop(other), other == i);
            }
        }
    }

    @Sentence(at = "Promise 2", text = "TURN i (0 .. 3) is told by the CODES of LETTERS 0, 1, 2: true")
    static void p02_toldAnew() {
        TurnBench x = new TurnBench();
        x.turn(3, 2, 3, 1);
        due("told anew", x.turn(3, 2, 1, 3), true);
        due("the later one counts", x.group(), 2);
        due("letter 2", x.element(1, 2), 3);
        due("drop(3)", x.drop(3), true);
        due("it was told but once", x.drop(3), false);
    }

    @Sentence(at = "Promise 2", text = "false, and nothing is done, if that can't be.")
    static void p02_noSuchTurn() {
        TurnBench x = new TurnBench();
        for (int i : Benches.beyond(4)) {
            due("turn(" + i + ", 2, 3, 1)", x.turn(i, 2, 3, 1), false);
        }
        due("group()", x.group(), 1);
    }

    @Sentence(at = "Promise 2", text = "false, and nothing is done, if that can't be.")
    static void p02_nothingIsDone() {
        int[][] wrong = {{0, 2, 3}, {1, 0, 3}, {1, 2, 0}, {4, 2, 3}, {1, 4, 3}, {1, 2, 4}, {-4, 2, 3}, {1, -4, 3},
            {1, 2, -4}, {1, 1, 3}, {1, 2, 1}, {1, 2, 2}, {1, -1, 3}, {1, 2, -1}, {1, 2, -2}, {3, 3, 3}};
        Benches.changesNothing(x -> {
            for (int[] c : wrong) {
                // 1 is not told, 2 is told but not in the group
                for (int i = 1; i <= 2; i++) {
                    due("turn of wrong codes", x.turn(i, c[0], c[1], c[2]), false);
                }
            }
            due("turn(-1, -1, -2, -3)", x.turn(-1, -1, -2, -3), false);
            due("turn(4, -1, -2, -3)", x.turn(4, -1, -2, -3), false);
        });
    }

    @Sentence(at = "Promise 2", text = "false, and nothing is done, if that can't be.")
    static void p02_theToldOneStays() {
        TurnBench x = new TurnBench();
        x.turn(0, 2, 3, 1);
        due("turn(0, -2, 3, 4)", x.turn(0, -2, 3, 4), false);
        due("turn(0, -2, -3, -2)", x.turn(0, -2, -3, -2), false);
        due("group()", x.group(), 3);
        due("element(1, 0)", x.element(1, 0), 2);
    }

    @Sentence(at = "Promise 2", text = "(THE GROUP stays till it is made.)")
    static void p02_theGroupStays() {
        TurnBench x = Benches.of(2, 1, 3);
        x.put(0, 1, 0, 0, 2);
        x.turn(0, 2, 3, 1);
        x.turn(1, -1, 2, 3);
        due("about(0)", x.about(0), 2);
        due("about(3)", x.about(3), 2);
        due("about(6)", x.about(6), 3);
        due("about(7)", x.about(7), 2);
        due("element(1, 0)", x.element(1, 0), 2);
        due("element(1, 1)", x.element(1, 1), 1);
        due("times(1, 1)", x.times(1, 1), 0);
        due("sign(1, 1)", x.sign(1, 1), -1);
        due("mean(1, 0, 0)", x.mean(1, 0, 0), 1);
        due("number(1, 0, 1, 0)", x.number(1, 0, 1, 0), 1);
        due("count(1, 0)", x.count(1, 0), 2);
        due("series(1, 0)", x.series(1, 0), 2);
        due("images(1, 2, 3)", x.images(1, 2, 3), 2);
        due("group()", x.group(), 24);
    }

    // ---- Promise 3: drop

    @Sentence(at = "Promise 3", text = "TURN i is told no more: true")
    static void p03_firstAndLastTurn() {
        TurnBench x = new TurnBench();
        for (int i = 0; i < 4; i++) {
            x.turn(i, 2, 3, 1);
        }
        due("drop(0)", x.drop(0), true);
        due("drop(3)", x.drop(3), true);
        due("the others are told", x.group(), 3);
        due("drop(1)", x.drop(1), true);
        due("one is told", x.group(), 3);
        due("drop(2)", x.drop(2), true);
        due("the group stays till it is made", x.about(0), 3);
        due("none is told", x.group(), 1);
    }

    @Sentence(at = "Promise 3", text = "false if it was not.")
    static void p03_notTold() {
        TurnBench x = new TurnBench();
        x.turn(1, 2, 1, 3);
        due("never told", x.drop(0), false);
        due("never told", x.drop(3), false);
        due("told", x.drop(1), true);
        due("dropped", x.drop(1), false);
        due("refused", x.turn(1, 2, 2, 3), false);
        due("still not told", x.drop(1), false);
        due("told again", x.turn(1, 2, 1, 3), true);
        due("told again", x.drop(1), true);
    }

    @Sentence(at = "Promise 3", text = "false if it was not.")
    static void p03_noSuchTurn() {
        Benches.changesNothing(x -> {
            for (int i : Benches.beyond(4)) {
                due("drop(" + i + ")", x.drop(i), false);
            }
            due("drop(1), which is not told", x.drop(1), false);
        });
    }

    // ---- Promise 4: group

    @Sentence(at = "Promise 4", text = "THE GROUP is made of the TURNS: how many ELEMENTS.")
    static void p04_ofNoneAndOfAll() {
        TurnBench x = new TurnBench();
        due("of no turns", x.group(), 1);
        x.turn(0, 2, 3, 1);
        x.turn(1, 2, 1, 3);
        x.turn(2, -1, 2, 3);
        x.turn(3, 1, 2, 3);
        due("of all", x.group(), 48);
        due("again", x.group(), 48);
        due("the last element", x.element(47, 0) != 0, true);
        x.drop(2);
        due("of fewer", x.group(), 6);
        due("the others are no more", x.element(6, 0), 0);
        due("nor their signs", x.sign(2, 0), 0);
        due("nor their classes", x.about(2), 3);
        x.drop(0);
        x.drop(1);
        x.drop(3);
        due("of no turns again", x.group(), 1);
        due("element 0 alone", x.element(1, 0), 0);
        due("its sign alone", x.about(3), 1);
    }

    @Sentence(at = "Promise 4", text = "THE GROUP is made of the TURNS: how many ELEMENTS.")
    static void p04_polynomialsStay() {
        TurnBench x = Benches.busy();
        int before = x.value(3, 7, 11, 1300);
        due("group()", x.group(), 48);
        due("value of a polynomial", x.value(3, 7, 11, 1300), before);
        due("degree of a polynomial", x.degree(6), 6);
    }

    @Sentence(at = "Promise 4", text = "THE GROUP is made of the TURNS: how many ELEMENTS.")
    static void p04_madeAgainAllIsTheSame() {
        TurnBench x = Benches.cube();
        due("group()", x.group(), 48);
        Sentences.due("of 48, made twice", Benches.lookAtGroupClosely(x), Benches.lookAtGroupClosely(Benches.cube()));
    }

    @Sentence(at = "Promise 4", text = "THE GROUP is made of the TURNS: how many ELEMENTS.")
    static void p04_behindAnotherGroupAsOnANewObject() {
        int[][] groups = {{}, {2, 3, 1, 2, 1, 3, -1, 2, 3}, {-1, -2, -3}, {2, 1, 3}, {-2, -3, -1}, {2, 3, 1},
            {-1, 2, 3, 1, -2, 3, 1, 2, -3}, {2, -1, -3}};
        for (int[] before : groups) {
            for (int[] then : groups) {
                TurnBench x = Benches.of(before);
                due("few of the one ahead", x.about(6) >= 3, true);
                x.mean(0, 0, 0);
                due("made of the one ahead", x.made(0), 0);
                for (int i = 0; i < 4; i++) {
                    x.drop(i);
                }
                for (int i = 0; i < then.length / 3; i++) {
                    x.turn(i, then[3 * i], then[3 * i + 1], then[3 * i + 2]);
                }
                x.group();
                Sentences.due("behind another group", Benches.lookAtGroupClosely(x),
                    Benches.lookAtGroupClosely(Benches.of(then)));
            }
        }
    }

    // ---- Promise 5: about

    @Sentence(at = "Promise 5", text = "What 0 how many ELEMENTS")
    static void p05_elements() {
        due("least", new TurnBench().about(0), 1);
        due("most", Benches.cube().about(0), 48);
    }

    @Sentence(at = "Promise 5", text = "1 KIND")
    static void p05_kind() {
        due("least", new TurnBench().about(1), 0);
        due("between", Benches.orders().about(1), 1);
        due("greatest", Benches.cube().about(1), 2);
    }

    @Sentence(at = "Promise 5", text = "2 CLASSES")
    static void p05_classes() {
        due("least", new TurnBench().about(2), 1);
        due("most", Benches.cube().about(2), 10);
        due("as many as elements", Benches.signs().about(2), 8);
        due("as most, of sixteen", Benches.of(2, 1, 3, -1, 2, 3, 1, 2, -3).about(2), 10);
    }

    @Sentence(at = "Promise 5", text = "3 SIGNS")
    static void p05_signs() {
        due("least", new TurnBench().about(3), 1);
        due("one for three elements", Benches.of(2, 3, 1).about(3), 1);
        due("most", Benches.signs().about(3), 8);
        due("most, of sixteen", Benches.of(2, 1, 3, -1, 2, 3, 1, 2, -3).about(3), 8);
        due("of four turns", Benches.of(-1, 2, 3, 1, -2, 3, 1, 2, -3, -1, -2, -3).about(3), 8);
    }

    @Sentence(at = "Promise 5", text = "4 MIRRORS")
    static void p05_mirrors() {
        due("none", new TurnBench().about(4), 0);
        due("none of 24", Benches.of(2, -1, 3, 2, 3, 1).about(4), 0);
        due("most", Benches.cube().about(4), 9);
    }

    @Sentence(at = "Promise 5", text = "5 1 if all ELEMENTS are products of MIRRORS (0 of nothing), else 0")
    static void p05_productsOfMirrors() {
        due("0 of nothing", new TurnBench().about(5), 1);
        due("0 of nothing, but others of none", Benches.of(2, 3, 1).about(5), 0);
        due("one mirror", Benches.of(2, 1, 3).about(5), 1);
        due("all 48", Benches.cube().about(5), 1);
        due("some mirrors, but not enough", Benches.of(-1, 2, 3, -1, -2, -3).about(5), 0);
        due("some mirrors, but half", Benches.of(2, 3, 1, -1, 2, 3).about(5), 0);
        due("two mirrors that make a third turn", Benches.of(-1, 2, 3, 1, -2, 3).about(5), 1);
        due("turns that are no mirrors, but of them", Benches.of(2, 3, 1, 3, 2, 1).about(5), 1);
    }

    @Sentence(at = "Promise 5", text = "6 the FEW")
    static void p05_few() {
        due("fewest", Benches.cube().about(6), 3);
        due("fewest of the least group", new TurnBench().about(6), 3);
        due("most", Benches.back().about(6), 6);
        due("most, of degree 6 at last", Benches.of(-2, -3, -1).about(6), 6);
    }

    // No group is without FEW, and no product of their degrees is above 2304: neither edge can be met.
    @Sentence(at = "Promise 5", text = "7 the product of the degrees of the FEW (1 of none; an int, it wraps).")
    static void p05_degreesOfFew() {
        due("least", new TurnBench().about(7), 1);
        due("greatest", Benches.of(-2, -3, -1).about(7), 2304);
        due("asked ahead of what 6", Benches.back().about(7), 64);
    }

    @Sentence(at = "Promise 5", text = "NONE for another what.")
    static void p05_anotherWhat() {
        for (TurnBench x : new TurnBench[] {new TurnBench(), Benches.cube()}) {
            for (int what : Benches.beyond(8)) {
                due("about(" + what + ")", x.about(what), NONE);
            }
            due("about(7) is the last", x.about(7) > 0, true);
        }
    }

    // ---- Promise 6: element

    @Sentence(at = "Promise 6", text = "The CODE of LETTER i (0 .. 2) in ELEMENT g")
    static void p06_firstAndLast() {
        TurnBench x = Benches.of(-3, 1, -2);
        int[][] all = {{1, 2, 3}, {-3, 1, -2}, {2, -3, -1}};
        for (int g = 0; g < 3; g++) {
            for (int i = 0; i < 3; i++) {
                due("element(" + g + ", " + i + ")", x.element(g, i), all[g][i]);
            }
        }
    }

    @Sentence(at = "Promise 6", text = "0 if there is none such.")
    static void p06_noSuchElement() {
        TurnBench x = Benches.of(-3, 1, -2);
        for (int g : Benches.beyond(3)) {
            due("element(" + g + ", 0)", x.element(g, 0), 0);
        }
        TurnBench y = Benches.cube();
        for (int g : Benches.beyond(48)) {
            due("element(" + g + ", 2) of 48", y.element(g, 2), 0);
        }
    }

    @Sentence(at = "Promise 6", text = "0 if there is none such.")
    static void p06_noSuchLetter() {
        TurnBench x = Benches.of(-3, 1, -2);
        for (int i : Benches.beyond(3)) {
            due("element(2, " + i + ")", x.element(2, i), 0);
            due("element(3, " + i + ")", x.element(3, i), 0);
        }
    }

    // ---- Promise 7: times

    @Sentence(at = "Promise 7", text = "TIMES g, h: the ELEMENT")
    static void p07_firstAndLast() {
        TurnBench x = Benches.cube();
        due("times(0, 0)", x.times(0, 0), 0);
        due("times(0, 47)", x.times(0, 47), 47);
        due("times(47, 0)", x.times(47, 0), 47);
        int both = x.times(47, 46);
        for (int i = 0; i < 3; i++) {
            int code = x.element(47, i);
            int next = x.element(46, Math.abs(code) - 1);
            due("letter " + i + " of times(47, 46)", x.element(both, i), code < 0 ? -next : next);
        }
    }

    @Sentence(at = "Promise 7", text = "NONE if one is none.")
    static void p07_noSuchElement() {
        TurnBench x = Benches.of(2, -1, 3);
        TurnBench y = Benches.cube();
        for (int g : Benches.beyond(4)) {
            due("times(" + g + ", 3)", x.times(g, 3), NONE);
            due("times(3, " + g + ")", x.times(3, g), NONE);
            due("times(" + g + ", " + g + ")", x.times(g, g), NONE);
        }
        for (int g : Benches.beyond(48)) {
            due("times(" + g + ", 47) of 48", y.times(g, 47), NONE);
            due("times(47, " + g + ") of 48", y.times(47, g), NONE);
        }
    }

    // ---- Promise 8: of

    @Sentence(at = "Promise 8", text = "Of ELEMENT g what 0 the one that leads back")
    static void p08_back() {
        due("of 0", new TurnBench().of(0, 0), 0);
        TurnBench x = Benches.cube();
        for (int g = 0; g < 48; g++) {
            due("times of " + g + " and its back", x.times(g, x.of(g, 0)), 0);
        }
        due("of one that is its own", Benches.back().of(1, 0), 1);
        due("of one of six", Benches.of(-2, -3, -1).of(1, 0), 5);
    }

    @Sentence(at = "Promise 8", text = "1 how often it must be done to leave all")
    static void p08_howOften() {
        due("0: once", new TurnBench().of(0, 1), 1);
        due("twice", Benches.back().of(1, 1), 2);
        due("three times", Benches.of(2, 3, 1).of(1, 1), 3);
        due("four times", Benches.of(2, -1, 3).of(1, 1), 4);
        due("six times, the most", Benches.of(-2, 3, 1).of(1, 1), 6);
        TurnBench x = Benches.cube();
        int[] howMany = new int[49];
        for (int g = 0; g < 48; g++) {
            int often = x.of(g, 1);
            howMany[often >= 0 && often <= 48 ? often : 0]++;
        }
        due("of 48: once", howMany[1], 1);
        due("of 48: twice", howMany[2], 19);
        due("of 48: three times", howMany[3], 8);
        due("of 48: four times", howMany[4], 12);
        due("of 48: six times", howMany[6], 8);
    }

    @Sentence(at = "Promise 8", text = "2 its CLASS")
    static void p08_class() {
        due("of 0", new TurnBench().of(0, 2), 0);
        TurnBench x = Benches.signs();
        for (int g = 0; g < 8; g++) {
            due("each alone", x.of(g, 2), g);
        }
        int[] classes = {0, 1, 2, 1, 2, 2};
        TurnBench y = Benches.orders();
        for (int g = 0; g < 6; g++) {
            due("of all orders, " + g, y.of(g, 2), classes[g]);
        }
    }

    @Sentence(at = "Promise 8", text = "3 1 if it is a MIRROR, else 0.")
    static void p08_mirror() {
        due("0 alone", new TurnBench().of(0, 3), 0);
        TurnBench x = Benches.cube();
        int mirrors = 0;
        for (int g = 0; g < 48; g++) {
            mirrors += x.of(g, 3);
        }
        due("of 48", mirrors, 9);
        TurnBench y = Benches.orders();
        int[] are = {0, 0, 1, 0, 1, 1};
        for (int g = 0; g < 6; g++) {
            due("of all orders, " + g, y.of(g, 3), are[g]);
        }
    }

    @Sentence(at = "Promise 8", text = "NONE if it is none, or for another what.")
    static void p08_noSuchElement() {
        TurnBench x = Benches.of(2, -1, 3);
        for (int g : Benches.beyond(4)) {
            for (int what = 0; what < 4; what++) {
                due("of(" + g + ", " + what + ")", x.of(g, what), NONE);
            }
        }
        TurnBench y = Benches.cube();
        due("of(47, 0) of 48", y.of(47, 0) >= 0, true);
        for (int what = 0; what < 4; what++) {
            due("of(48, " + what + ") of 48", y.of(48, what), NONE);
        }
    }

    @Sentence(at = "Promise 8", text = "NONE if it is none, or for another what.")
    static void p08_anotherWhat() {
        TurnBench x = Benches.of(2, 1, 3);
        for (int what : Benches.beyond(4)) {
            due("of(0, " + what + ")", x.of(0, what), NONE);
            due("of(1, " + what + ")", x.of(1, what), NONE);
        }
        due("of(1, 3) is the last", x.of(1, 3), 1);
    }

    // ---- Promise 9: sign

    @Sentence(at = "Promise 9", text = "What SIGN c gives ELEMENT g")
    static void p09_firstAndLast() {
        TurnBench x = Benches.signs();
        due("sign(0, 0)", x.sign(0, 0), 1);
        due("sign(7, 0)", x.sign(7, 0), 1);
        due("sign(7, 1)", x.sign(7, 1), -1);
        due("sign(0, 7)", x.sign(0, 7), 1);
        due("sign(7, 7): of all signs at once", x.sign(7, 7), -1);
        TurnBench y = Benches.cube();
        due("sign(3, 47)", Math.abs(y.sign(3, 47)), 1);
    }

    @Sentence(at = "Promise 9", text = "0 if one is none.")
    static void p09_noSuchSign() {
        TurnBench x = Benches.signs();
        for (int c : Benches.beyond(8)) {
            due("sign(" + c + ", 0)", x.sign(c, 0), 0);
        }
        TurnBench y = new TurnBench();
        for (int c : Benches.beyond(1)) {
            due("sign(" + c + ", 0)", y.sign(c, 0), 0);
        }
        due("of four turns, sign 7", Benches.of(-1, 2, 3, 1, -2, 3, 1, 2, -3, -1, -2, -3).sign(7, 0), 1);
        due("of four turns, sign 8", Benches.of(-1, 2, 3, 1, -2, 3, 1, 2, -3, -1, -2, -3).sign(8, 0), 0);
    }

    @Sentence(at = "Promise 9", text = "0 if one is none.")
    static void p09_noSuchElement() {
        TurnBench x = Benches.signs();
        for (int g : Benches.beyond(8)) {
            due("sign(0, " + g + ")", x.sign(0, g), 0);
            due("sign(7, " + g + ")", x.sign(7, g), 0);
        }
        due("sign(0, 48) of 48", Benches.cube().sign(0, 48), 0);
    }
}
