/** The edges that promises 24 to 27 name, of values, places and images: each test is of one sentence. */
public final class PlaceEdgeTest {
    private static final int NONE = TurnBench.NONE;
    private static final int LEAST = Benches.LEAST;
    private static final int GREATEST = Benches.GREATEST;

    public static void main(String[] args) {
        Sentences.run(PlaceEdgeTest.class, "Promise 24", "Promise 25", "Promise 26", "Promise 27");
    }

    private static void due(String call, long got, long want) {
        Sentences.due(call, got, want);
    }

    // ---- Promise 24: value

    @Sentence(at = "Promise 24", text = "The value of p at a PLACE")
    static void p24_emptyAndFull() {
        TurnBench x = new TurnBench();
        due("of 0", x.value(0, 5, 6, 7), 0);
        due("of 0 at 0", x.value(0, 0, 0, 0), 0);
        Benches.fill(x, 7, 8, 32002);
        due("full at 1", x.value(7, 1, 1, 1), 32003 - 165);
        due("full at 0", x.value(7, 0, 0, 0), 32002);
        // 1 - 3 + 6 - 10 + 15 - 21 + 28 - 36 + 45 is 25
        due("full at -1", x.value(7, 32002, 32002, 32002), 32003 - 25);
        due("full at -1, told so", x.value(7, -1, -1, -1), 32003 - 25);
        due("full on one line", x.value(7, 0, 0, 2), 32003 - 511);
    }

    @Sentence(at = "Promise 24", text = "The value of p at a PLACE")
    static void p24_powers0And8() {
        TurnBench x = new TurnBench();
        x.put(0, 8, 0, 0, 1);
        x.put(1, 0, 8, 0, 1);
        x.put(2, 0, 0, 8, 1);
        x.put(3, 0, 0, 0, 7);
        due("letter 0", x.value(0, 3, 0, 0), 6561);
        due("letter 1", x.value(1, 0, 3, 0), 6561);
        due("letter 2", x.value(2, 0, 0, 3), 6561);
        due("letter 0 at 0", x.value(0, 0, 3, 3), 0);
        due("a number, at 0", x.value(3, 0, 0, 0), 7);
        due("the greatest NUMBER", x.value(0, 32002, 0, 0), 1);
    }

    @Sentence(at = "Promise 24", text = "The value of p at a PLACE")
    static void p24_anyInts() {
        TurnBench x = new TurnBench();
        x.put(0, 1, 0, 0, 1);
        x.put(1, 0, 1, 0, 1);
        x.put(2, 0, 0, 1, 1);
        int[] any = {LEAST, GREATEST, -1, 32002, 32003, 32004, -32003, -32004, LEAST + 1, 1 << 30};
        for (int n : any) {
            long left = (n % 32003L + 32003L) % 32003L;
            due("u " + n, x.value(0, n, LEAST, GREATEST), left);
            due("v " + n, x.value(1, GREATEST, n, LEAST), left);
            due("w " + n, x.value(2, LEAST, GREATEST, n), left);
        }
    }

    @Sentence(at = "Promise 24", text = "NONE if p is none.")
    static void p24_noSuchPolynomial() {
        TurnBench x = new TurnBench();
        for (int p = 0; p < 8; p++) {
            x.put(p, 0, 0, 0, 5);
        }
        due("the first", x.value(0, 1, 1, 1), 5);
        due("the last", x.value(7, 1, 1, 1), 5);
        for (int p : Benches.beyond(8)) {
            due("value(" + p + ", 1, 1, 1)", x.value(p, 1, 1, 1), NONE);
        }
    }

    // ---- Promise 25: images

    @Sentence(at = "Promise 25", text = "How many IMAGES a PLACE has.")
    static void p25_fewestAndMost() {
        due("of element 0 alone", new TurnBench().images(1, 2, 3), 1);
        TurnBench x = Benches.cube();
        due("most", x.images(1, 2, 3), 48);
        due("fewest", x.images(0, 0, 0), 1);
        due("one 0", x.images(0, 1, 2), 24);
        due("two alike", x.images(1, 1, 2), 24);
        due("two alike but for the sign", x.images(1, -1, 2), 24);
        due("two 0", x.images(0, 0, 1), 6);
        due("all alike", x.images(4, 4, 4), 8);
        due("one 0, two alike", x.images(0, 4, -4), 12);
    }

    @Sentence(at = "Promise 25", text = "How many IMAGES a PLACE has.")
    static void p25_unlikeInOneNumberAlone() {
        TurnBench x = Benches.signs();
        due("at letter 0", x.images(1, 0, 0), 2);
        due("at letter 1", x.images(0, 1, 0), 2);
        due("at letter 2", x.images(0, 0, 1), 2);
        due("at the greatest int", x.images(GREATEST, 0, 0), 2);
        due("by ints, not by what is left over", x.images(32003, 0, 0), 2);
    }

    @Sentence(at = "Promise 25", text = "How many IMAGES a PLACE has.")
    static void p25_askedAgain() {
        TurnBench x = Benches.of(2, 3, 1);
        due("the first time", x.images(1, 2, 3), 3);
        due("the same again", x.images(1, 2, 3), 3);
        due("an image of it", x.images(3, 1, 2), 3);
        due("its image 0", x.image(0, 0), 3);
        due("its image 2", x.image(2, 0), 1);
        due("fewer", x.images(3, 3, 3), 1);
        due("more again", x.images(1, 2, 3), 3);
        due("its image 2", x.image(2, 0), 2);
        due("of a new object", Benches.of(2, 3, 1).images(0, 0, 0), 1);
    }

    // ---- Promise 26: image

    @Sentence(at = "Promise 26", text = "IMAGE i of the latest images(): what 0, 1, 2 its numbers.")
    static void p26_firstAndLast() {
        TurnBench x = Benches.cube();
        x.images(1, 2, 3);
        for (int what = 0; what < 3; what++) {
            due("image(0, " + what + ")", x.image(0, what), what + 1);
        }
        int[] last = new int[3];
        for (int letter = 0; letter < 3; letter++) {
            int code = x.element(47, letter);
            last[Math.abs(code) - 1] = code < 0 ? -letter - 1 : letter + 1;
        }
        for (int what = 0; what < 3; what++) {
            due("image(47, " + what + ")", x.image(47, what), last[what]);
        }
    }

    @Sentence(at = "Promise 26", text = "IMAGE i of the latest images(): what 0, 1, 2 its numbers.")
    static void p26_theLatest() {
        TurnBench x = Benches.of(2, 3, 1);
        x.images(1, 2, 3);
        x.images(7, 7, 8);
        due("image(0, 2)", x.image(0, 2), 8);
        due("image(1, 0)", x.image(1, 0), 8);
        due("image(2, 1)", x.image(2, 1), 8);
        x.leads(1, 2, 3);
        due("not of what leads() was asked", x.image(0, 0), 7);
        x.images(9, 9, 9);
        due("image(0, 0)", x.image(0, 0), 9);
        due("the earlier ones are no more", x.image(1, 0), 0);
    }

    @Sentence(at = "Promise 26", text = "0 if there is none such.")
    static void p26_aheadOfAnyImages() {
        TurnBench x = Benches.cube();
        for (int what = 0; what < 3; what++) {
            due("image(0, " + what + ")", x.image(0, what), 0);
        }
    }

    @Sentence(at = "Promise 26", text = "0 if there is none such.")
    static void p26_noSuchImage() {
        TurnBench x = Benches.of(2, 3, 1);
        x.images(4, 5, 6);
        for (int i : Benches.beyond(3)) {
            for (int what = 0; what < 3; what++) {
                due("image(" + i + ", " + what + ")", x.image(i, what), 0);
            }
        }
        TurnBench y = Benches.cube();
        y.images(4, 5, 6);
        due("image(48, 0) of 48", y.image(48, 0), 0);
        due("image(-1, 0) of 48", y.image(-1, 0), 0);
        y.images(0, 0, 6);
        due("image(6, 0) of 6", y.image(6, 0), 0);
        due("image(6, 1) of 6", y.image(6, 1), 0);
        due("image(6, 2) of 6", y.image(6, 2), 0);
    }

    @Sentence(at = "Promise 26", text = "0 if there is none such.")
    static void p26_anotherWhat() {
        TurnBench x = Benches.of(2, 3, 1);
        x.images(4, 5, 6);
        for (int what : Benches.beyond(3)) {
            for (int i = 0; i < 3; i++) {
                due("image(" + i + ", " + what + ")", x.image(i, what), 0);
            }
        }
    }

    // ---- Promise 27: leads

    @Sentence(at = "Promise 27", text = "The least ELEMENT that leads the PLACE of the latest images() to u, v, w")
    static void p27_firstAndLast() {
        TurnBench x = Benches.cube();
        x.images(1, 2, 3);
        due("by element 0", x.leads(1, 2, 3), 0);
        due("by element 47", x.leads(x.image(47, 0), x.image(47, 1), x.image(47, 2)), 47);
        x.images(0, 0, 0);
        due("by all: the least", x.leads(0, 0, 0), 0);
        x.images(0, 0, 5);
        due("by eight: the least", x.leads(0, 0, 5), 0);
    }

    @Sentence(at = "Promise 27", text = "The least ELEMENT that leads the PLACE of the latest images() to u, v, w")
    static void p27_theLeastOfSome() {
        // elements 0, the sign on letter 2, the swap, and both
        TurnBench x = Benches.of(1, 2, -3, 2, 1, 3);
        x.images(4, 5, 0);
        due("the swap, not both", x.leads(5, 4, 0), 2);
        x.images(4, 4, 6);
        due("the sign, not both", x.leads(4, 4, -6), 1);
        x.images(4, 5, 6);
        due("both", x.leads(5, 4, -6), 3);
    }

    @Sentence(at = "Promise 27", text = "The least ELEMENT that leads the PLACE of the latest images() to u, v, w")
    static void p27_theLatestPlace() {
        TurnBench x = Benches.of(2, 1, 3);
        x.images(1, 2, 3);
        x.images(4, 5, 6);
        due("of the latest", x.leads(5, 4, 6), 1);
        due("not of the one ahead", x.leads(2, 1, 3), NONE);
        due("asking changes nothing", x.leads(4, 5, 6), 0);
        due("asking changes nothing", x.leads(5, 4, 6), 1);
    }

    @Sentence(at = "Promise 27", text = "NONE if none does")
    static void p27_noneDoes() {
        TurnBench x = Benches.of(2, 1, 3);
        x.images(1, 2, 3);
        due("unlike in u", x.leads(0, 2, 3), NONE);
        due("unlike in v", x.leads(1, 0, 3), NONE);
        due("unlike in w", x.leads(1, 2, 0), NONE);
        due("unlike in a sign", x.leads(1, 2, -3), NONE);
        due("another order", x.leads(3, 2, 1), NONE);
        due("by what is left over", x.leads(32004, 2, 3), NONE);
        due("far away", x.leads(LEAST, GREATEST, LEAST), NONE);
        TurnBench y = Benches.cube();
        y.images(1, 2, 3);
        due("of 48 none", y.leads(1, 1, 3), NONE);
        y.images(0, 0, 0);
        due("of 48 none", y.leads(0, 0, 1), NONE);
    }

    @Sentence(at = "Promise 27", text = "(or ahead of any images()).")
    static void p27_aheadOfAnyImages() {
        TurnBench x = new TurnBench();
        due("leads(0, 0, 0)", x.leads(0, 0, 0), NONE);
        TurnBench y = Benches.cube();
        due("leads(0, 0, 0) of 48", y.leads(0, 0, 0), NONE);
        due("leads(1, 2, 3) of 48", y.leads(1, 2, 3), NONE);
        due("asking is no images()", y.image(0, 0), 0);
        y.images(0, 0, 0);
        due("behind it", y.leads(0, 0, 0), 0);
    }
}
