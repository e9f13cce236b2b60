/** The edges that promises 10 to 17 name, of polynomials: each test is of one sentence. */
public final class PolynomialEdgeTest {
    private static final int NONE = TurnBench.NONE;
    private static final int REFUSED = -2;

    public static void main(String[] args) {
        Sentences.run(PolynomialEdgeTest.class, "Promise 10", "Promise 11", "Promise 12", "Promise 13", "Promise 14",
            "Promise 15", "Promise 16", "Promise 17");
    }

    private static void due(String call, long got, long want) {
        Sentences.due(call, got, want);
    }

    private static void due(String call, boolean got, boolean want) {
        Sentences.due(call, got, want);
    }

    /** Powers of which one is just below 0, or whose sum is just above 8, or that are far away. */
    private static final int[][] NO_POWERS = {{-1, 0, 0}, {0, -1, 0}, {0, 0, -1}, {9, 0, 0}, {0, 9, 0}, {0, 0, 9},
        {8, 1, 0}, {8, 0, 1}, {0, 8, 1}, {1, 8, 0}, {3, 3, 3}, {9, -1, 0}, {9, 0, -1}, {-1, 9, 0}, {0, -1, 9},
        {-1, -1, -1}, {4, 4, 1}, {Benches.LEAST, 0, 0}, {0, Benches.LEAST, 0}, {0, 0, Benches.LEAST},
        {Benches.GREATEST, 0, 0}, {0, Benches.GREATEST, 0}, {0, 0, Benches.GREATEST},
        {Benches.GREATEST, Benches.GREATEST, 2}, {Benches.GREATEST, 1, Benches.LEAST}, {1 << 30, 1 << 30, 1 << 31},
        {Benches.LEAST, Benches.LEAST, 0}, {Benches.LEAST, Benches.LEAST, 8}};

    // ---- Promise 10: put

    @Sentence(at = "Promise 10", text = "The NUMBER of POWERS i, j, k in POLYNOMIAL p is n: true")
    static void p10_firstAndLast() {
        TurnBench x = new TurnBench();
        int[][] powers = {{0, 0, 0}, {8, 0, 0}, {0, 8, 0}, {0, 0, 8}, {3, 3, 2}, {7, 1, 0}, {0, 1, 7}};
        for (int p = 0; p < 8; p += 7) {
            for (int[] q : powers) {
                due("put", x.put(p, q[0], q[1], q[2], 32002 - p), true);
            }
        }
        for (int p = 0; p < 8; p += 7) {
            for (int[] q : powers) {
                due("number", x.number(p, q[0], q[1], q[2]), 32002 - p);
            }
        }
        due("no other polynomial", x.degree(1), NONE);
        due("no other polynomial", x.degree(6), NONE);
    }

    @Sentence(at = "Promise 10", text = "The NUMBER of POWERS i, j, k in POLYNOMIAL p is n: true")
    static void p10_inThePlaceOfTheOld() {
        TurnBench x = new TurnBench();
        x.put(0, 1, 2, 3, 9);
        due("put", x.put(0, 1, 2, 3, 4), true);
        due("not both together", x.number(0, 1, 2, 3), 4);
        due("put 0", x.put(0, 1, 2, 3, 0), true);
        due("0", x.number(0, 1, 2, 3), 0);
        due("degree", x.degree(0), NONE);
        due("put the prime", x.put(0, 1, 2, 3, 32003), true);
        due("degree", x.degree(0), NONE);
        due("put less the prime", x.put(0, 1, 2, 3, -32003), true);
        due("degree", x.degree(0), NONE);
    }

    @Sentence(at = "Promise 10", text = "false, and nothing is done, if there is none such.")
    static void p10_noSuchPolynomial() {
        Benches.changesNothing(x -> {
            for (int p : Benches.beyond(8)) {
                due("put(" + p + ", 0, 0, 0, 1)", x.put(p, 0, 0, 0, 1), false);
            }
        });
    }

    @Sentence(at = "Promise 10", text = "false, and nothing is done, if there is none such.")
    static void p10_noSuchPowers() {
        Benches.changesNothing(x -> {
            for (int[] q : NO_POWERS) {
                due("put(0, " + q[0] + ", " + q[1] + ", " + q[2] + ", 1)", x.put(0, q[0], q[1], q[2], 1), false);
                due("put(7, " + q[0] + ", " + q[1] + ", " + q[2] + ", 1)", x.put(7, q[0], q[1], q[2], 1), false);
            }
        });
    }

    // ---- Promise 11: number

    @Sentence(at = "Promise 11", text = "That NUMBER")
    static void p11_fullOfUnlikeNumbers() {
        TurnBench x = new TurnBench();
        for (int round = 0; round < 2; round++) {
            int n = 0;
            for (int i = 0; i <= 8; i++) {
                for (int j = 0; i + j <= 8; j++) {
                    for (int k = 0; i + j + k <= 8; k++) {
                        n++;
                        if (round == 0) {
                            x.put(7, i, j, k, 32003 - n);
                        } else {
                            due("number(7, " + i + ", " + j + ", " + k + ")", x.number(7, i, j, k), 32003 - n);
                        }
                    }
                }
            }
            due("how many", n, 165);
        }
    }

    @Sentence(at = "Promise 11", text = "0 if there is none such.")
    static void p11_noSuchPolynomial() {
        TurnBench x = new TurnBench();
        for (int p = 0; p < 8; p++) {
            x.put(p, 0, 0, 0, 5);
        }
        due("the first", x.number(0, 0, 0, 0), 5);
        due("the last", x.number(7, 0, 0, 0), 5);
        for (int p : Benches.beyond(8)) {
            due("number(" + p + ", 0, 0, 0)", x.number(p, 0, 0, 0), 0);
        }
    }

    @Sentence(at = "Promise 11", text = "0 if there is none such.")
    static void p11_noSuchPowers() {
        TurnBench x = new TurnBench();
        Benches.fill(x, 3, 8, 6);
        for (int[] q : NO_POWERS) {
            due("number(3, " + q[0] + ", " + q[1] + ", " + q[2] + ")", x.number(3, q[0], q[1], q[2]), 0);
        }
    }

    // ---- Promise 12: degree

    @Sentence(at = "Promise 12", text = "The DEGREE of POLYNOMIAL p")
    static void p12_leastAndGreatest() {
        TurnBench x = new TurnBench();
        due("of 0", x.degree(0), NONE);
        x.put(0, 0, 0, 0, 1);
        due("of a number", x.degree(0), 0);
        int[][] eight = {{8, 0, 0}, {0, 8, 0}, {0, 0, 8}, {2, 3, 3}};
        for (int[] q : eight) {
            x.put(7, q[0], q[1], q[2], 32002);
            due("the greatest", x.degree(7), 8);
            x.put(7, q[0], q[1], q[2], 0);
            due("without it", x.degree(7), NONE);
        }
        Benches.fill(x, 6, 8, 1);
        due("full", x.degree(6), 8);
    }

    @Sentence(at = "Promise 12", text = "NONE, too, if there is none such.")
    static void p12_noSuchPolynomial() {
        TurnBench x = new TurnBench();
        for (int p = 0; p < 8; p++) {
            x.put(p, 1, 0, 0, 1);
        }
        for (int p : Benches.beyond(8)) {
            due("degree(" + p + ")", x.degree(p), NONE);
        }
        due("the first", x.degree(0), 1);
        due("the last", x.degree(7), 1);
    }

    // ---- Promise 13: sum

    @Sentence(at = "Promise 13", text = "p becomes q times n and r times m, together: its DEGREE")
    static void p13_greatestNumbers() {
        TurnBench x = new TurnBench();
        x.put(0, 8, 0, 0, 32002);
        x.put(7, 8, 0, 0, 32002);
        x.put(7, 0, 0, 0, 32002);
        due("sum", x.sum(7, 0, 32002, 7, 32002), 8);
        due("1 and 1", x.number(7, 8, 0, 0), 2);
        due("0 and 1", x.number(7, 0, 0, 0), 1);
        due("any ints", x.sum(6, 0, Benches.LEAST, 0, Benches.GREATEST), 8);
        due("-1 times -1", x.number(6, 8, 0, 0), 1);
    }

    @Sentence(at = "Promise 13", text = "p becomes q times n and r times m, together: its DEGREE")
    static void p13_intoItself() {
        TurnBench x = new TurnBench();
        x.put(0, 1, 0, 0, 5);
        x.put(1, 0, 2, 0, 7);
        due("into q", x.sum(0, 0, 2, 1, 3), 2);
        due("of q", x.number(0, 1, 0, 0), 10);
        due("of r", x.number(0, 0, 2, 0), 21);
        due("into r", x.sum(1, 0, 1, 1, 1), 2);
        due("of both", x.number(1, 0, 2, 0), 28);
        due("of q", x.number(1, 1, 0, 0), 10);
        due("into both", x.sum(1, 1, 1, 1, 1), 2);
        due("twice", x.number(1, 0, 2, 0), 56);
        due("q stays", x.number(0, 0, 2, 0), 21);
    }

    @Sentence(at = "Promise 13", text = "p becomes q times n and r times m, together: its DEGREE")
    static void p13_empty() {
        TurnBench x = new TurnBench();
        x.put(0, 5, 3, 0, 9);
        x.put(2, 1, 1, 1, 9);
        due("0 times", x.sum(2, 0, 0, 0, 0), NONE);
        due("what was there is gone", x.number(2, 1, 1, 1), 0);
        due("the prime times", x.sum(2, 0, 32003, 0, -32003), NONE);
        due("one less the other", x.sum(2, 0, 1, 0, -1), NONE);
        due("one and the other make the prime", x.sum(2, 0, 32002, 0, 1), NONE);
        due("of what is 0", x.sum(2, 3, 5, 4, 6), NONE);
        due("the greatest goes, the lesser is left", x.put(0, 1, 0, 0, 1) && x.put(1, 5, 3, 0, 9), true);
        due("sum", x.sum(2, 0, 1, 1, -1), 1);
    }

    @Sentence(at = "Promise 13", text = "p becomes q times n and r times m, together: its DEGREE")
    static void p13_full() {
        TurnBench x = new TurnBench();
        Benches.fill(x, 0, 8, 32002);
        due("sum", x.sum(1, 0, 32002, 0, 32002), 8);
        for (int i = 0; i <= 8; i++) {
            for (int j = 0; i + j <= 8; j++) {
                for (int k = 0; i + j + k <= 8; k++) {
                    due("number(1, " + i + ", " + j + ", " + k + ")", x.number(1, i, j, k), 2);
                }
            }
        }
    }

    @Sentence(at = "Promise 13", text = "(-2, and nothing is done, if one is none).")
    static void p13_noSuchPolynomial() {
        Benches.changesNothing(x -> {
            for (int p : Benches.beyond(8)) {
                due("p " + p, x.sum(p, 0, 1, 1, 1), REFUSED);
                due("q " + p, x.sum(0, p, 1, 1, 1), REFUSED);
                due("r " + p, x.sum(0, 1, 1, p, 1), REFUSED);
                due("q " + p + ", 0 times", x.sum(7, p, 0, 1, 0), REFUSED);
                due("r " + p + ", 0 times", x.sum(7, 1, 0, p, 0), REFUSED);
            }
        });
    }

    @Sentence(at = "Promise 13", text = "(-2, and nothing is done, if one is none).")
    static void p13_firstAndLastPolynomial() {
        TurnBench x = new TurnBench();
        x.put(7, 0, 1, 0, 3);
        due("into 0 of 7", x.sum(0, 7, 1, 7, 1), 1);
        due("into 7 of 0", x.sum(7, 0, 1, 0, 1), 1);
        due("its number", x.number(7, 0, 1, 0), 12);
    }

    // ---- Promise 14: product

    @Sentence(at = "Promise 14", text = "p becomes the product of q and r: its DEGREE")
    static void p14_greatestNumbers() {
        TurnBench x = new TurnBench();
        Benches.fill(x, 0, 4, 32002);
        Benches.fill(x, 7, 4, 32002);
        due("full by full", x.product(1, 0, 7), 8);
        for (int i = 0; i <= 8; i++) {
            for (int j = 0; i + j <= 8; j++) {
                for (int k = 0; i + j + k <= 8; k++) {
                    due("number(1, " + i + ", " + j + ", " + k + ")", x.number(1, i, j, k), ways(i, j, k));
                }
            }
        }
    }

    /** How many pairs of powers of degree 4 at most make these: as -1 times -1 is 1, that is the number. */
    private static int ways(int i, int j, int k) {
        int ways = 0;
        for (int a = 0; a <= i; a++) {
            for (int b = 0; b <= j; b++) {
                for (int c = 0; c <= k; c++) {
                    ways += a + b + c <= 4 && i + j + k - a - b - c <= 4 ? 1 : 0;
                }
            }
        }
        return ways;
    }

    @Sentence(at = "Promise 14", text = "p becomes the product of q and r: its DEGREE")
    static void p14_intoItself() {
        TurnBench x = new TurnBench();
        x.put(0, 1, 0, 0, 1);
        x.put(0, 0, 0, 0, 1);
        x.put(1, 0, 1, 0, 2);
        due("into q", x.product(0, 0, 1), 2);
        due("x y", x.number(0, 1, 1, 0), 2);
        due("y", x.number(0, 0, 1, 0), 2);
        due("x is gone", x.number(0, 1, 0, 0), 0);
        due("into r", x.product(1, 0, 1), 3);
        due("x y y", x.number(1, 1, 2, 0), 4);
        due("y y", x.number(1, 0, 2, 0), 4);
        due("y is gone", x.number(1, 0, 1, 0), 0);
        due("into both", x.product(0, 0, 0), 4);
        due("x y y twice", x.number(0, 1, 2, 0), 8);
    }

    @Sentence(at = "Promise 14", text = "p becomes the product of q and r: its DEGREE")
    static void p14_empty() {
        TurnBench x = new TurnBench();
        x.put(0, 4, 4, 0, 3);
        x.put(2, 1, 0, 0, 3);
        due("0 by degree 8", x.product(2, 1, 0), NONE);
        due("what was there is gone", x.number(2, 1, 0, 0), 0);
        due("degree 8 by 0", x.product(2, 0, 1), NONE);
        due("0 by 0", x.product(2, 1, 1), NONE);
        x.put(3, 0, 0, 0, 32002);
        due("a number by a number", x.product(4, 3, 3), 0);
        due("-1 by -1", x.number(4, 0, 0, 0), 1);
    }

    @Sentence(at = "Promise 14",
        text = "(-2, and nothing is done, if one is none, or both DEGREES together are above 8).")
    static void p14_noSuchPolynomial() {
        Benches.changesNothing(x -> {
            for (int p : Benches.beyond(8)) {
                due("p " + p, x.product(p, 0, 1), REFUSED);
                due("q " + p, x.product(0, p, 1), REFUSED);
                due("r " + p, x.product(0, 1, p), REFUSED);
            }
        });
        TurnBench y = new TurnBench();
        for (int p : Benches.beyond(8)) {
            due("by what is 0, p " + p, y.product(p, 0, 0), REFUSED);
            due("by what is 0, q " + p, y.product(0, p, 0), REFUSED);
            due("by what is 0, r " + p, y.product(0, 0, p), REFUSED);
        }
    }

    @Sentence(at = "Promise 14",
        text = "(-2, and nothing is done, if one is none, or both DEGREES together are above 8).")
    static void p14_degreesTogether8And9() {
        for (int d = 0; d <= 8; d++) {
            TurnBench x = new TurnBench();
            x.put(0, d, 0, 0, 2);
            x.put(7, 0, 8 - d, 0, 5);
            due("8 together, of " + d, x.product(3, 0, 7), 8);
            due("its number", x.number(3, d, 8 - d, 0), 10);
            x.put(0, d, 0, 0, 0);
            x.put(0, 0, 0, d + 1, 4);
            int want = d + 1 <= 8 ? REFUSED : NONE;
            due("9 together, of " + (d + 1), x.product(3, 0, 7), want);
            due("9 together, the other way", x.product(3, 7, 0), want);
            due("nothing was done", x.number(3, d, 8 - d, 0), d + 1 <= 8 ? 10 : 0);
            due("nothing was done to r", x.number(7, 0, 8 - d, 0), 5);
        }
    }

    @Sentence(at = "Promise 14",
        text = "(-2, and nothing is done, if one is none, or both DEGREES together are above 8).")
    static void p14_above8_nothingIsDone() {
        Benches.changesNothing(x -> {
            due("6 and 4", x.product(0, 6, 4), REFUSED);
            due("4 and 5", x.product(4, 4, 5), REFUSED);
            due("5 and 4", x.product(4, 5, 4), REFUSED);
            due("5 and 5, into itself", x.product(5, 5, 5), REFUSED);
            due("6 and 6, into itself", x.product(6, 6, 6), REFUSED);
        });
        TurnBench y = new TurnBench();
        y.put(0, 0, 0, 8, 1);
        due("8 and 8", y.product(1, 0, 0), REFUSED);
        due("nothing was done", y.degree(1), NONE);
    }

    // ---- Promise 15: turned

    @Sentence(at = "Promise 15", text = "p becomes q turned by ELEMENT g: its DEGREE")
    static void p15_firstAndLastElement() {
        TurnBench x = Benches.of(2, 3, 1, 2, 1, 3, -1, 2, 3);
        x.put(0, 1, 2, 4, 5);
        due("by element 0", x.turned(7, 0, 0), 7);
        due("itself", x.number(7, 1, 2, 4), 5);
        int last = 47;
        due("by element 47", x.turned(7, 0, last), 7);
        int[] powers = new int[3];
        int[] of = {1, 2, 4};
        int sign = 1;
        for (int i = 0; i < 3; i++) {
            int code = x.element(last, i);
            powers[Math.abs(code) - 1] = of[i];
            sign *= code < 0 && of[i] % 2 == 1 ? -1 : 1;
        }
        due("its number", x.number(7, powers[0], powers[1], powers[2]), sign > 0 ? 5 : 31998);
    }

    @Sentence(at = "Promise 15", text = "p becomes q turned by ELEMENT g: its DEGREE")
    static void p15_emptyAndFull() {
        TurnBench x = Benches.of(-2, -3, -1);
        x.put(1, 1, 0, 0, 4);
        due("0", x.turned(1, 0, 1), NONE);
        due("what was there is gone", x.number(1, 1, 0, 0), 0);
        Benches.fill(x, 0, 8, 1);
        due("full, into itself", x.turned(0, 0, 1), 8);
        for (int i = 0; i <= 8; i++) {
            for (int j = 0; i + j <= 8; j++) {
                for (int k = 0; i + j + k <= 8; k++) {
                    int want = (i + j + k) % 2 == 0 ? 1 : 32002;
                    due("number(0, " + i + ", " + j + ", " + k + ")", x.number(0, i, j, k), want);
                }
            }
        }
    }

    @Sentence(at = "Promise 15", text = "p becomes q turned by ELEMENT g: its DEGREE")
    static void p15_intoItselfAndBack() {
        TurnBench x = Benches.of(-2, 3, 1);
        x.put(0, 3, 2, 1, 7);
        x.put(0, 1, 0, 0, 8);
        for (int n = 0; n < 6; n++) {
            due("into itself", x.turned(0, 0, 1), 6);
        }
        due("six times is not at all", x.number(0, 3, 2, 1), 7);
        due("six times is not at all", x.number(0, 1, 0, 0), 8);
        x.turned(1, 0, 1);
        due("back", x.turned(1, 1, x.of(1, 0)), 6);
        due("less the first", x.sum(1, 1, 1, 0, -1), NONE);
    }

    @Sentence(at = "Promise 15", text = "(-2, and nothing is done, if one is none).")
    static void p15_noSuchPolynomial() {
        Benches.changesNothing(x -> {
            for (int p : Benches.beyond(8)) {
                due("p " + p, x.turned(p, 0, 1), REFUSED);
                due("q " + p, x.turned(0, p, 1), REFUSED);
            }
        });
    }

    @Sentence(at = "Promise 15", text = "(-2, and nothing is done, if one is none).")
    static void p15_noSuchElement() {
        Benches.changesNothing(x -> {
            for (int g : Benches.beyond(4)) {
                due("g " + g, x.turned(0, 1, g), REFUSED);
                due("g " + g + " into itself", x.turned(7, 7, g), REFUSED);
            }
        });
        TurnBench y = Benches.cube();
        due("element 47 of 48", y.turned(0, 0, 47), NONE);
        due("element 48 of 48", y.turned(0, 0, 48), REFUSED);
    }

    // ---- Promise 16: mean

    @Sentence(at = "Promise 16", text = "p becomes the MEAN of q for SIGN c: its DEGREE")
    static void p16_firstAndLastSign() {
        TurnBench x = Benches.signs();
        x.put(0, 0, 0, 2, 6);
        x.put(0, 0, 0, 1, 7);
        x.put(0, 1, 1, 1, 9);
        due("sign 0", x.mean(7, 0, 0), 2);
        due("even powers", x.number(7, 0, 0, 2), 6);
        due("and no others", x.number(7, 1, 1, 1) + x.number(7, 0, 0, 1), 0);
        due("sign 7", x.mean(7, 0, 7), 3);
        due("odd powers", x.number(7, 1, 1, 1), 9);
        due("and no others", x.number(7, 0, 0, 2) + x.number(7, 0, 0, 1), 0);
        due("sign 1", x.mean(7, 0, 1), 1);
        due("an odd power of letter 2", x.number(7, 0, 0, 1), 7);
    }

    @Sentence(at = "Promise 16", text = "p becomes the MEAN of q for SIGN c: its DEGREE")
    static void p16_intoItselfAndAgain() {
        TurnBench x = Benches.orders();
        x.put(0, 2, 1, 0, 32002);
        due("into itself", x.mean(0, 0, 0), 3);
        due("a sixth", x.number(0, 0, 2, 1), 26669);
        due("the mean of a mean is that", x.mean(1, 0, 0), 3);
        due("less the first", x.sum(1, 1, 1, 0, -1), NONE);
        due("for the other sign it is 0", x.mean(1, 0, 1), NONE);
        x.put(2, 1, 0, 0, 4);
        due("what is of no degree of that sign", x.mean(3, 2, 1), NONE);
        due("0", x.mean(3, 4, 1), NONE);
    }

    @Sentence(at = "Promise 16", text = "(-2, and nothing is done, if one is none).")
    static void p16_noSuchPolynomial() {
        Benches.changesNothing(x -> {
            for (int p : Benches.beyond(8)) {
                due("p " + p, x.mean(p, 0, 0), REFUSED);
                due("q " + p, x.mean(0, p, 0), REFUSED);
            }
        });
    }

    @Sentence(at = "Promise 16", text = "(-2, and nothing is done, if one is none).")
    static void p16_noSuchSign() {
        Benches.changesNothing(x -> {
            for (int c : Benches.beyond(4)) {
                due("c " + c, x.mean(0, 1, c), REFUSED);
                due("c " + c + " into itself", x.mean(7, 7, c), REFUSED);
            }
        });
        TurnBench y = Benches.signs();
        due("sign 7 of 8", y.mean(0, 0, 7), NONE);
        due("sign 8 of 8", y.mean(0, 0, 8), REFUSED);
        due("sign 1 of 1", new TurnBench().mean(0, 0, 1), REFUSED);
    }

    // ---- Promise 17: stays

    @Sentence(at = "Promise 17", text = "Whether p STAYS for SIGN c: 1, 0")
    static void p17_firstAndLast() {
        TurnBench x = Benches.signs();
        x.put(0, 0, 0, 2, 6);
        x.put(7, 1, 1, 1, 6);
        for (int c = 0; c < 8; c++) {
            due("polynomial 0 for sign " + c, x.stays(0, c), c == 0 ? 1 : 0);
            due("polynomial 7 for sign " + c, x.stays(7, c), c == 7 ? 1 : 0);
            due("0 for sign " + c, x.stays(3, c), 1);
        }
        x.put(0, 0, 0, 7, 1);
        due("one number of degree 7 more", x.stays(0, 0), 0);
    }

    @Sentence(at = "Promise 17", text = "Whether p STAYS for SIGN c: 1, 0")
    static void p17_likeButForOneNumber() {
        TurnBench x = Benches.of(2, 1, 3);
        int[][] pairs = {{8, 0, 0}, {0, 0, 0}, {1, 0, 7}, {4, 3, 1}, {1, 0, 0}};
        for (int[] q : pairs) {
            boolean alone = q[0] == q[1];
            x.sum(0, 0, 0, 0, 0);
            x.put(0, q[0], q[1], q[2], 32002);
            due("one alone", x.stays(0, 0), alone ? 1 : 0);
            x.put(0, q[1], q[0], q[2], alone ? 32002 : 32001);
            due("an unlike one", x.stays(0, 0), alone ? 1 : 0);
            x.put(0, q[1], q[0], q[2], 32002);
            due("a like one", x.stays(0, 0), 1);
            x.put(0, q[1], q[0], q[2], 1);
            due("less that one", x.stays(0, 1), alone ? 0 : 1);
        }
    }

    @Sentence(at = "Promise 17", text = "NONE if one is none.")
    static void p17_noSuchPolynomial() {
        TurnBench x = Benches.signs();
        for (int p : Benches.beyond(8)) {
            due("stays(" + p + ", 0)", x.stays(p, 0), NONE);
            due("stays(" + p + ", 7)", x.stays(p, 7), NONE);
            due("stays(" + p + ", 8)", x.stays(p, 8), NONE);
        }
    }

    @Sentence(at = "Promise 17", text = "NONE if one is none.")
    static void p17_noSuchSign() {
        TurnBench x = Benches.signs();
        for (int c : Benches.beyond(8)) {
            due("stays(0, " + c + ")", x.stays(0, c), NONE);
        }
        due("sign 1 of 1", new TurnBench().stays(0, 1), NONE);
        due("sign 0 of 1", new TurnBench().stays(0, 0), 1);
    }
}
