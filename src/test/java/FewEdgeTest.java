/** The edges that promises 18 to 23 name, of counts, the few, laws and parts: each test is of one sentence. */
public final class FewEdgeTest {
    private static final int NONE = TurnBench.NONE;
    private static final int REFUSED = -2;

    public static void main(String[] args) {
        Sentences.run(FewEdgeTest.class, "Promise 18", "Promise 19", "Promise 20", "Promise 21", "Promise 22",
            "Promise 23");
    }

    private static void due(String call, long got, long want) {
        Sentences.due(call, got, want);
    }

    // ---- Promise 18: count

    @Sentence(at = "Promise 18", text = "COUNT of degree d (0 .. 8) for SIGN c")
    static void p18_firstAndLastDegree() {
        due("degree 0 of element 0 alone", new TurnBench().count(0, 0), 1);
        due("degree 8 of element 0 alone", new TurnBench().count(8, 0), 45);
        TurnBench x = Benches.cube();
        due("degree 0 of 48", x.count(0, 0), 1);
        due("degree 7 of 48", x.count(7, 0), 0);
        due("degree 8 of 48", x.count(8, 0), 4);
    }

    @Sentence(at = "Promise 18", text = "COUNT of degree d (0 .. 8) for SIGN c")
    static void p18_firstAndLastSign() {
        TurnBench x = Benches.signs();
        due("degree 8, sign 0", x.count(8, 0), 15);
        due("degree 8, sign 7", x.count(8, 7), 0);
        due("degree 7, sign 7", x.count(7, 7), 6);
        due("degree 8, sign 3", x.count(8, 3), 10);
        int all = 0;
        for (int c = 0; c < 8; c++) {
            all += x.count(8, c);
        }
        due("all signs together: all of degree 8", all, 45);
    }

    @Sentence(at = "Promise 18", text = "NONE for others.")
    static void p18_noSuchDegree() {
        TurnBench x = Benches.signs();
        for (int d : Benches.beyond(9)) {
            due("count(" + d + ", 0)", x.count(d, 0), NONE);
            due("count(" + d + ", 7)", x.count(d, 7), NONE);
        }
    }

    @Sentence(at = "Promise 18", text = "NONE for others.")
    static void p18_noSuchSign() {
        TurnBench x = Benches.signs();
        for (int c : Benches.beyond(8)) {
            due("count(0, " + c + ")", x.count(0, c), NONE);
            due("count(8, " + c + ")", x.count(8, c), NONE);
            due("count(9, " + c + ")", x.count(9, c), NONE);
        }
        due("sign 1 of 1", new TurnBench().count(0, 1), NONE);
    }

    // ---- Promise 19: series

    @Sentence(at = "Promise 19", text = "SERIES of degree d (0 .. 200) for SIGN c")
    static void p19_firstAndLastDegree() {
        due("degree 0 of element 0 alone", new TurnBench().series(0, 0), 1);
        due("degree 1 of element 0 alone", new TurnBench().series(1, 0), 3);
        due("degree 199 of element 0 alone", new TurnBench().series(199, 0), 20100);
        due("degree 200 of element 0 alone", new TurnBench().series(200, 0), 20301);
        TurnBench x = Benches.cube();
        due("degree 0 of 48", x.series(0, 0), 1);
        due("degree 198 of 48", x.series(198, 0), 867);
        due("degree 200 of 48", x.series(200, 0), 884);
    }

    @Sentence(at = "Promise 19", text = "SERIES of degree d (0 .. 200) for SIGN c")
    static void p19_firstAndLastSign() {
        TurnBench x = Benches.signs();
        // 100 halves in three lots; for sign 7 each letter has one more, so 199 is the last degree with any
        due("degree 200, sign 0", x.series(200, 0), 101 * 102 / 2);
        due("degree 200, sign 7", x.series(200, 7), 0);
        due("degree 199, sign 7", x.series(199, 7), 99 * 100 / 2);
        due("degree 0, sign 7", x.series(0, 7), 0);
        due("degree 3, sign 7", x.series(3, 7), 1);
        int all = 0;
        for (int c = 0; c < 8; c++) {
            all += x.series(200, c);
        }
        due("all signs together: all of degree 200", all, 20301);
    }

    @Sentence(at = "Promise 19", text = "SERIES of degree d (0 .. 200) for SIGN c")
    static void p19_asCountWhereBothAre() {
        TurnBench[] all = {new TurnBench(), Benches.cube(), Benches.orders(), Benches.signs(), Benches.of(-2, 3, 1)};
        for (TurnBench x : all) {
            int signs = x.about(3);
            for (int c = 0; c < signs; c++) {
                for (int d = 0; d <= 8; d++) {
                    due("series(" + d + ", " + c + ")", x.series(d, c), x.count(d, c));
                }
            }
        }
    }

    @Sentence(at = "Promise 19", text = "NONE for others.")
    static void p19_noSuchDegree() {
        TurnBench x = Benches.signs();
        for (int d : Benches.beyond(201)) {
            due("series(" + d + ", 0)", x.series(d, 0), NONE);
            due("series(" + d + ", 7)", x.series(d, 7), NONE);
        }
    }

    @Sentence(at = "Promise 19", text = "NONE for others.")
    static void p19_noSuchSign() {
        TurnBench x = Benches.signs();
        for (int c : Benches.beyond(8)) {
            due("series(0, " + c + ")", x.series(0, c), NONE);
            due("series(200, " + c + ")", x.series(200, c), NONE);
            due("series(201, " + c + ")", x.series(201, c), NONE);
        }
        due("sign 1 of 1", new TurnBench().series(0, 1), NONE);
    }

    // ---- Promise 20: few

    @Sentence(at = "Promise 20", text = "p becomes FEW i: its DEGREE")
    static void p20_firstAndLast() {
        TurnBench x = Benches.back();
        x.put(7, 8, 0, 0, 3);
        x.put(7, 1, 0, 0, 3);
        due("the first into 7", x.few(7, 0), 2);
        due("x x", x.number(7, 2, 0, 0), 1);
        due("what was there is gone", x.number(7, 8, 0, 0) + x.number(7, 1, 0, 0), 0);
        due("the last into 0", x.few(0, 5), 2);
        due("z z", x.number(0, 0, 0, 2), 1);
        due("degree(0)", x.degree(0), 2);
        TurnBench y = Benches.cube();
        due("of degree 6", y.few(3, 2), 6);
        due("a third of x x x x x x", y.number(3, 0, 0, 6), 10668);
        due("it stays", y.stays(3, 0), 1);
    }

    @Sentence(at = "Promise 20", text = "p becomes FEW i: its DEGREE")
    static void p20_ofTheGroupAsItIsMade() {
        TurnBench x = Benches.back();
        due("few 5 of the one", x.few(0, 5), 2);
        x.turn(0, 2, 1, 3);
        due("few 5, as the group stays", x.few(0, 5), 2);
        x.group();
        due("few 5 of the other", x.few(0, 5), REFUSED);
        due("few 2 of the other", x.few(0, 2), 2);
        due("half of x x", x.number(0, 2, 0, 0), 16002);
        x.put(0, 2, 0, 0, 7);
        due("few 2 again, whatever was put", x.few(1, 2), 2);
        due("half of x x", x.number(1, 2, 0, 0), 16002);
    }

    @Sentence(at = "Promise 20", text = "(-2, and nothing is done, if one is none).")
    static void p20_noSuchPolynomial() {
        Benches.changesNothing(x -> {
            for (int p : Benches.beyond(8)) {
                due("few(" + p + ", 0)", x.few(p, 0), REFUSED);
            }
        });
    }

    @Sentence(at = "Promise 20", text = "(-2, and nothing is done, if one is none).")
    static void p20_noSuchFew() {
        Benches.changesNothing(x -> {
            for (int i : Benches.beyond(3)) {
                due("few(0, " + i + ")", x.few(0, i), REFUSED);
                due("few(7, " + i + ")", x.few(7, i), REFUSED);
            }
        });
        TurnBench y = Benches.of(-2, -3, -1);
        due("few 5 of 6", y.few(0, 5), 6);
        for (int i : Benches.beyond(6)) {
            due("few(0, " + i + ") of 6", y.few(0, i), REFUSED);
        }
        due("nothing was done", y.degree(0), 6);
        due("few 3 of a new object", new TurnBench().few(0, 3), REFUSED);
    }

    // ---- Promise 21: laws

    @Sentence(at = "Promise 21", text = "How many PRODUCTS degree d (0 .. 6) has (what 0)")
    static void p21_products_firstAndLast() {
        TurnBench none = new TurnBench();
        TurnBench back = Benches.back();
        int[] all = {1, 3, 6, 10, 15, 21, 28};
        int[] even = {1, 0, 6, 0, 21, 0, 56};
        for (int d = 0; d <= 6; d++) {
            due("degree " + d + " of element 0 alone", none.laws(d, 0), all[d]);
            due("degree " + d + " of all signs at once", back.laws(d, 0), even[d]);
        }
    }

    @Sentence(at = "Promise 21", text = "how many LAWS (1).")
    static void p21_laws_firstAndLast() {
        TurnBench back = Benches.back();
        TurnBench swap = Benches.of(2, 1, -3);
        int[] even = {0, 0, 0, 0, 6, 0, 28};
        int[] some = {0, 0, 0, 0, 1, 1, 4};
        for (int d = 0; d <= 6; d++) {
            due("degree " + d + " of all signs at once", back.laws(d, 1), even[d]);
            due("degree " + d + " of a half turn", swap.laws(d, 1), some[d]);
            due("degree " + d + " of element 0 alone", new TurnBench().laws(d, 1), 0);
        }
    }

    @Sentence(at = "Promise 21", text = "NONE for others.")
    static void p21_noSuchDegree() {
        for (TurnBench x : new TurnBench[] {new TurnBench(), Benches.back()}) {
            for (int d : Benches.beyond(7)) {
                due("laws(" + d + ", 0)", x.laws(d, 0), NONE);
                due("laws(" + d + ", 1)", x.laws(d, 1), NONE);
            }
        }
    }

    @Sentence(at = "Promise 21", text = "NONE for others.")
    static void p21_anotherWhat() {
        TurnBench x = Benches.back();
        for (int what : Benches.beyond(2)) {
            due("laws(0, " + what + ")", x.laws(0, what), NONE);
            due("laws(6, " + what + ")", x.laws(6, what), NONE);
            due("laws(7, " + what + ")", x.laws(7, what), NONE);
        }
    }

    // ---- Promise 22: made

    @Sentence(at = "Promise 22", text = "Of how many PARTS p is MADE.")
    static void p22_emptyAndFull() {
        TurnBench x = new TurnBench();
        due("of none", x.made(0), 0);
        x.put(0, 0, 0, 0, 1);
        due("of one", x.made(0), 1);
        Benches.fill(x, 7, 6, 1);
        due("of all", x.made(7), 84);
        TurnBench y = Benches.back();
        Benches.fill(y, 0, 6, 1);
        y.mean(0, 0, 0);
        due("of all where there are laws", y.made(0), 1 + 6 + 15 + 28);
    }

    @Sentence(at = "Promise 22", text = "NONE: there is none such")
    static void p22_noSuchPolynomial() {
        TurnBench x = new TurnBench();
        for (int p : Benches.beyond(8)) {
            due("made(" + p + ")", x.made(p), NONE);
        }
        due("made(0)", x.made(0), 0);
        due("made(7)", x.made(7), 0);
        Benches.changesNothing(y -> {
            for (int p : Benches.beyond(8)) {
                due("made(" + p + ")", y.made(p), NONE);
            }
        });
    }

    @Sentence(at = "Promise 22", text = "it does not STAY for SIGN 0")
    static void p22_itDoesNotStay() {
        TurnBench x = Benches.of(2, 1, 3);
        x.put(0, 1, 0, 0, 1);
        due("it stays for no sign", x.made(0), NONE);
        x.put(0, 0, 1, 0, 32002);
        due("it stays for sign 1 alone", x.made(0), NONE);
        due("so it is", x.stays(0, 1), 1);
        x.put(0, 0, 1, 0, 1);
        due("it stays", x.made(0), 1);
        due("0 stays for both", x.made(1), 0);
        x.put(0, 6, 0, 0, 1);
        due("but for one number of degree 6", x.made(0), NONE);
        Benches.changesNothing(y -> due("made(1)", y.made(1), NONE));
    }

    @Sentence(at = "Promise 22", text = "or its DEGREE is above 6.")
    static void p22_degree6And7() {
        TurnBench x = new TurnBench();
        x.put(0, 0, 0, 6, 1);
        due("degree 6", x.made(0), 1);
        x.put(0, 0, 0, 7, 1);
        due("degree 7", x.made(0), NONE);
        x.put(0, 0, 8, 0, 1);
        due("degree 8", x.made(0), NONE);
        x.put(0, 0, 0, 7, 0);
        due("degree 8 without 7", x.made(0), NONE);
        x.put(0, 0, 8, 0, 0);
        due("degree 6 again", x.made(0), 1);
        TurnBench y = Benches.cube();
        y.put(0, 2, 2, 2, 1);
        due("degree 6 of 48", y.made(0), 3);
        y.few(1, 0);
        y.product(1, 1, 0);
        due("degree 8 of 48, it stays", y.stays(1, 0), 1);
        due("degree 8 of 48", y.made(1), NONE);
    }

    // ---- Promise 23: part

    @Sentence(at = "Promise 23", text = "Of PART i of what made() told latest (not NONE): what 0 its multiple")
    static void p23_multiple() {
        TurnBench x = new TurnBench();
        Benches.fill(x, 0, 6, 32002);
        x.put(0, 0, 0, 0, 1);
        x.put(0, 0, 0, 6, 2);
        x.made(0);
        due("the first", x.part(0, 0), 1);
        due("the second", x.part(1, 0), 32002);
        due("the last", x.part(83, 0), 2);
        due("one more", x.part(84, 0), NONE);
    }

    @Sentence(at = "Promise 23", text = "Of PART i of what made() told latest (not NONE): what 0 its multiple")
    static void p23_toldLatestNotNone() {
        TurnBench x = new TurnBench();
        due("ahead of any made", x.part(0, 0), NONE);
        due("not made", x.made(8), NONE);
        due("ahead of any that told", x.part(0, 0), NONE);
        x.put(0, 0, 0, 0, 5);
        x.put(0, 1, 0, 0, 6);
        x.put(1, 0, 1, 0, 7);
        x.put(2, 7, 0, 0, 8);
        due("made(0)", x.made(0), 2);
        due("made(2): of degree 7", x.made(2), NONE);
        due("made(8)", x.made(8), NONE);
        due("part(0, 0)", x.part(0, 0), 5);
        due("part(1, 0)", x.part(1, 0), 6);
        due("made(1)", x.made(1), 1);
        due("part(0, 0)", x.part(0, 0), 7);
        due("no second part", x.part(1, 0), NONE);
        due("made(3): of 0", x.made(3), 0);
        due("no part", x.part(0, 0), NONE);
    }

    @Sentence(at = "Promise 23", text = "1 its degree")
    static void p23_degree() {
        TurnBench x = Benches.cube();
        x.few(0, 2);
        x.put(0, 0, 0, 0, 4);
        due("made(0)", x.made(0), 2);
        due("least", x.part(0, 1), 0);
        due("greatest", x.part(1, 1), 6);
    }

    @Sentence(at = "Promise 23", text = "2 + k how often FEW k comes in it.")
    static void p23_howOften() {
        TurnBench x = new TurnBench();
        x.put(0, 6, 0, 0, 3);
        x.put(0, 1, 2, 3, 4);
        x.put(0, 0, 0, 0, 5);
        due("made(0)", x.made(0), 3);
        int[][] often = {{0, 0, 0}, {6, 0, 0}, {1, 2, 3}};
        for (int i = 0; i < 3; i++) {
            for (int k = 0; k < 3; k++) {
                due("part(" + i + ", " + (2 + k) + ")", x.part(i, 2 + k), often[i][k]);
            }
            due("few 3", x.part(i, 5), NONE);
        }
        TurnBench y = Benches.of(-2, -3, -1);
        y.few(0, 5);
        due("made(0)", y.made(0), 1);
        for (int k = 0; k < 6; k++) {
            due("few " + k, y.part(0, 2 + k), k == 5 ? 1 : 0);
        }
        due("few 6", y.part(0, 8), NONE);
    }

    @Sentence(at = "Promise 23", text = "NONE if there is none such.")
    static void p23_noSuchPart() {
        TurnBench x = Benches.busy();
        due("the last part", x.part(3, 0), 1);
        for (int i : Benches.beyond(4)) {
            for (int what = 0; what < 5; what++) {
                due("part(" + i + ", " + what + ")", x.part(i, what), NONE);
            }
        }
    }

    @Sentence(at = "Promise 23", text = "NONE if there is none such.")
    static void p23_anotherWhat() {
        TurnBench x = Benches.busy();
        due("the last what", x.part(3, 4), 1);
        for (int what : Benches.beyond(5)) {
            for (int i = 0; i < 4; i++) {
                due("part(" + i + ", " + what + ")", x.part(i, what), NONE);
            }
        }
    }

    @Sentence(at = "Promise 23", text = "(What it told stays, whatever p or THE GROUP become.)")
    static void p23_whateverPBecomes() {
        TurnBench x = new TurnBench();
        x.put(0, 1, 1, 0, 5);
        x.made(0);
        x.put(0, 1, 1, 0, 9);
        due("a number put", x.part(0, 0), 5);
        x.sum(0, 0, 0, 0, 0);
        due("p is 0", x.part(0, 0), 5);
        x.put(0, 8, 0, 0, 1);
        due("p can't be made", x.made(0), NONE);
        due("its degree", x.part(0, 1), 2);
        due("its few 1", x.part(0, 3), 1);
    }

    @Sentence(at = "Promise 23", text = "(What it told stays, whatever p or THE GROUP become.)")
    static void p23_whateverTheGroupBecomes() {
        TurnBench x = Benches.back();
        x.put(0, 0, 2, 2, 5);
        due("made(0)", x.made(0), 1);
        int[] part = {5, 4, 0, 0, 0, 1, 0, 1, NONE};
        x.turn(0, 2, 3, 1);
        x.turn(1, 2, 1, 3);
        x.group();
        due("of 3 few now", x.about(6), 3);
        due("laws of now", x.laws(6, 1), 0);
        for (int what = 0; what < 9; what++) {
            due("part(0, " + what + ") of 6 few", x.part(0, what), part[what]);
        }
        x.few(1, 2);
        due("made(1)", x.made(1), 1);
        x.turn(0, -1, -2, -3);
        x.drop(1);
        x.group();
        due("of 6 few now", x.about(6), 6);
        due("few 2 of 3 few", x.part(0, 4), 1);
        due("few 3 of 3 few", x.part(0, 5), NONE);
        due("asked anew it does not stay, or is made of others", x.made(1), NONE);
        due("what it told stays", x.part(0, 1), 3);
    }
}
