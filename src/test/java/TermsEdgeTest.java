import java.util.HashSet;
import java.util.Set;

/** The edges that 'What it is' and 'Terms' name: each test is of one sentence there. */
public final class TermsEdgeTest {
    private static final int LEAST = Benches.LEAST;
    private static final int GREATEST = Benches.GREATEST;

    public static void main(String[] args) {
        Sentences.run(TermsEdgeTest.class, "Terms 1", "Terms 2", "Terms 3", "Terms 4");
    }

    private static void due(String call, long got, long want) {
        Sentences.due(call, got, want);
    }

    private static void due(String call, boolean got, boolean want) {
        Sentences.due(call, got, want);
    }

    // ---- What it is

    @Sentence(at = "What it is", text = "An object is used for at most 512 calls after it has been made")
    static void w_the512thCallIsAnswered_groups() {
        TurnBench x = new TurnBench();
        x.turn(0, 2, 3, 1);
        x.turn(1, 2, 1, 3);
        x.turn(2, -1, 2, 3);
        for (int call = 4; call <= 511; call++) {
            due("group() as call " + call, x.group(), 48);
        }
        due("images(1, 2, 3) as call 512", x.images(1, 2, 3), 48);
    }

    @Sentence(at = "What it is", text = "An object is used for at most 512 calls after it has been made")
    static void w_the512thCallIsAnswered_fewAndParts() {
        TurnBench x = new TurnBench();
        x.put(0, 2, 0, 0, 5);
        for (int call = 2; call <= 509; call += 4) {
            boolean odd = (call & 4) != 0;
            x.turn(0, odd ? -1 : 1, odd ? -2 : 2, odd ? -3 : 3);
            x.group();
            due("about(6) as call " + (call + 2), x.about(6), odd ? 6 : 3);
            due("made(0) as call " + (call + 3), x.made(0), 1);
        }
        x.drop(1);
        x.drop(2);
        due("part(0, 0) as call 512", x.part(0, 0), 5);
    }

    // ---- Terms 1

    @Sentence(at = "Terms 1", text = "LETTERS 0, 1, 2.")
    static void t1_letters() {
        TurnBench x = new TurnBench();
        due("element(0, -1)", x.element(0, -1), 0);
        due("element(0, 0)", x.element(0, 0), 1);
        due("element(0, 1)", x.element(0, 1), 2);
        due("element(0, 2)", x.element(0, 2), 3);
        due("element(0, 3)", x.element(0, 3), 0);
    }

    @Sentence(at = "Terms 1", text = "A TURN sends each to a letter with a sign, no two to the same one")
    static void t1_noTwoToTheSameLetter() {
        TurnBench x = new TurnBench();
        for (int s = -1; s <= 1; s += 2) {
            for (int t = -1; t <= 1; t += 2) {
                due("0 and 1 alike", x.turn(0, s, t, 3), false);
                due("0 and 2 alike", x.turn(0, 2 * s, 3, 2 * t), false);
                due("1 and 2 alike", x.turn(0, 1, 3 * s, 3 * t), false);
                due("all alike", x.turn(0, 2 * s, 2 * t, 2), false);
                due("none alike", x.turn(1, 2 * s, t, 3 * s), true);
            }
        }
        due("drop(0)", x.drop(0), false);
    }

    @Sentence(at = "Terms 1", text = "told as three CODES 1, 2, 3 (the letter 0, 1, 2) or -1, -2, -3 (with the sign).")
    static void t1_codes_all48AndNoOther() {
        int taken = 0;
        for (int a = -5; a <= 5; a++) {
            TurnBench x = new TurnBench();
            for (int b = -5; b <= 5; b++) {
                for (int c = -5; c <= 5; c++) {
                    boolean right = Math.abs(a * b * c) == 6 && Math.abs(a) + Math.abs(b) + Math.abs(c) == 6;
                    due("turn(2, " + a + ", " + b + ", " + c + ")", x.turn(2, a, b, c), right);
                    taken += right ? 1 : 0;
                }
            }
        }
        due("how many are taken", taken, 48);
    }

    @Sentence(at = "Terms 1", text = "told as three CODES 1, 2, 3 (the letter 0, 1, 2) or -1, -2, -3 (with the sign).")
    static void t1_codes_farAway() {
        TurnBench x = new TurnBench();
        int[] far = {0, 4, -4, LEAST, LEAST + 1, LEAST + 3, GREATEST, GREATEST - 2, 257, -255, 65537, 1 << 31 | 1};
        for (int code : far) {
            due("turn(0, " + code + ", 2, 3)", x.turn(0, code, 2, 3), false);
            due("turn(0, 1, " + code + ", 3)", x.turn(0, 1, code, 3), false);
            due("turn(0, 1, 2, " + code + ")", x.turn(0, 1, 2, code), false);
        }
        due("drop(0)", x.drop(0), false);
    }

    @Sentence(at = "Terms 1", text = "TURNS 0 .. 3 can be told.")
    static void t1_turns0To3() {
        TurnBench x = new TurnBench();
        due("turn -1", x.turn(-1, 1, 2, 3), false);
        for (int i = 0; i < 4; i++) {
            due("turn " + i, x.turn(i, 1, 2, 3), true);
        }
        due("turn 4", x.turn(4, 1, 2, 3), false);
    }

    @Sentence(at = "Terms 1", text = "TURNS 0 .. 3 can be told.")
    static void t1_turns0To3_allFourCount() {
        TurnBench x = new TurnBench();
        x.turn(0, -1, 2, 3);
        x.turn(1, 1, -2, 3);
        x.turn(2, 1, 2, -3);
        due("of three", x.group(), 8);
        x.turn(3, 2, 1, 3);
        due("of four", x.group(), 16);
        due("signs of four", x.about(3), 8);
        x.drop(0);
        due("of the last three", x.group(), 16);
        x.drop(2);
        due("of the second and the last", x.group(), 8);
        x.drop(3);
        due("of the second", x.group(), 2);
    }

    @Sentence(at = "Terms 1", text = "THE GROUP has ELEMENTS 0, 1, ..: 0 is the one that leaves all (at first alone)")
    static void t1_element0() {
        TurnBench x = new TurnBench();
        TurnBench y = Benches.cube();
        for (int i = 0; i < 3; i++) {
            due("element(0, " + i + ") at first", x.element(0, i), i + 1);
            due("element(1, " + i + ") at first", x.element(1, i), 0);
            due("element(0, " + i + ") of 48", y.element(0, i), i + 1);
        }
        due("about(0) at first", x.about(0), 1);
    }

    @Sentence(at = "Terms 1",
        text = "as it is made: of ELEMENTS one behind the other, of the told TURNS by their numbers,"
        + " the ELEMENT and then the TURN together (first the one, then the other), if that is none yet,"
        + " comes behind them")
    static void t1_asItIsMade_order() {
        TurnBench x = new TurnBench();
        x.turn(3, 2, 1, 3);
        x.turn(1, -2, 3, 1);
        x.group();
        // turn 1 ahead of turn 3, though it was told later; then turn 1 twice, turn 1 and then turn 3
        int[][] first = {{1, 2, 3}, {-2, 3, 1}, {2, 1, 3}, {-3, 1, -2}, {-1, 3, 2}};
        for (int g = 0; g < first.length; g++) {
            for (int i = 0; i < 3; i++) {
                due("element(" + g + ", " + i + ")", x.element(g, i), first[g][i]);
            }
        }
    }

    @Sentence(at = "Terms 1",
        text = "as it is made: of ELEMENTS one behind the other, of the told TURNS by their numbers,"
        + " the ELEMENT and then the TURN together (first the one, then the other), if that is none yet,"
        + " comes behind them")
    static void t1_asItIsMade_noneTwice() {
        due("the one that leaves all", Benches.of(1, 2, 3).about(0), 1);
        due("that one four times", Benches.of(1, 2, 3, 1, 2, 3, 1, 2, 3, 1, 2, 3).about(0), 1);
        TurnBench x = Benches.of(1, 2, 3, 2, 1, 3, 2, 1, 3, 1, 2, 3);
        due("one told twice, between", x.about(0), 2);
        due("element(1, 0)", x.element(1, 0), 2);
        due("element(2, 0)", x.element(2, 0), 0);
        due("one and its back", Benches.of(2, 3, 1, 3, 1, 2).about(0), 3);
    }

    @Sentence(at = "Terms 1", text = "till there is no more (48 at most).")
    static void t1_48AtMost() {
        TurnBench x = Benches.of(2, 3, 1, 2, 1, 3, -1, 2, 3, -1, -2, -3);
        due("about(0)", x.about(0), 48);
        Set<String> all = new HashSet<>();
        for (int g = 0; g < 48; g++) {
            all.add(x.element(g, 0) + " " + x.element(g, 1) + " " + x.element(g, 2));
        }
        due("unlike ones", all.size(), 48);
        due("element(47, 0) is a code", x.element(47, 0) != 0, true);
        due("element(48, 0)", x.element(48, 0), 0);
        due("made again", x.group(), 48);
    }

    @Sentence(at = "Terms 1", text = "TIMES g, h: first g, then h.")
    static void t1_timesFirstGThenH() {
        TurnBench x = Benches.of(2, 3, 1, 2, 1, 3);
        // 0 goes to 1 and 1 to 0, 1 goes to 2 and stays, 2 goes to 0 and 0 to 1
        due("times(1, 2)", x.times(1, 2), 4);
        due("its letter 0", x.element(4, 0), 1);
        due("its letter 1", x.element(4, 1), 3);
        due("times(2, 1)", x.times(2, 1), 5);
        due("its letter 0", x.element(5, 0), 3);
        TurnBench y = Benches.cube();
        int last = 47;
        due("times(47, 0)", y.times(last, 0), last);
        due("times(0, 47)", y.times(0, last), last);
        due("times(47, back of 47)", y.times(last, y.of(last, 0)), 0);
    }

    @Sentence(at = "Terms 1", text = "KIND: 0 RING: all ELEMENTS are what one of them, done again and again, comes to")
    static void t1_kindRing() {
        due("element 0 alone", new TurnBench().about(1), 0);
        due("of two, without a sign", Benches.of(2, 1, 3).about(1), 0);
        due("of two, with signs", Benches.back().about(1), 0);
        due("of three", Benches.of(2, 3, 1).about(1), 0);
        due("of four", Benches.of(2, -1, 3).about(1), 0);
        due("of six, the longest", Benches.of(-2, -3, -1).about(1), 0);
        due("of six, of two turns, neither of which is enough", Benches.of(2, 3, 1, -1, -2, -3).about(1), 0);
    }

    @Sentence(at = "Terms 1", text = "else 1 ORDER: no ELEMENT has a sign")
    static void t1_kindOrder() {
        due("all orders", Benches.orders().about(1), 1);
        due("all orders and one sign more", Benches.cube().about(1), 2);
    }

    @Sentence(at = "Terms 1", text = "else 2 SIGNED.")
    static void t1_kindSigned() {
        due("two signs", Benches.of(-1, 2, 3, 1, -2, 3).about(1), 2);
        due("a sign on letter 0 alone", Benches.of(1, 3, 2, -1, 2, 3).about(1), 2);
        due("a sign on letter 1 alone", Benches.of(3, 2, 1, 1, -2, 3).about(1), 2);
        due("a sign on letter 2 alone", Benches.of(2, 1, 3, 1, 2, -3).about(1), 2);
        due("six that are like all orders", Benches.of(-2, -1, 3, -3, 2, -1).about(1), 2);
        due("signs alone", Benches.signs().about(1), 2);
    }

    @Sentence(at = "Terms 1", text = "CLASSES: g and h are of one if some f, g, and f backwards, one behind the other"
        + " (f first), make h")
    static void t1_classes() {
        TurnBench x = Benches.of(2, -1, 3, 1, -2, 3);
        int[][] table = new int[8][8];
        int[] back = new int[8];
        int[] classOf = new int[8];
        for (int g = 0; g < 8; g++) {
            back[g] = Math.floorMod(x.of(g, 0), 8);
            classOf[g] = x.of(g, 2);
            for (int h = 0; h < 8; h++) {
                table[g][h] = Math.floorMod(x.times(g, h), 8);
            }
        }
        for (int g = 0; g < 8; g++) {
            for (int h = 0; h < 8; h++) {
                boolean one = false;
                for (int f = 0; f < 8; f++) {
                    one |= table[table[f][g]][back[f]] == h;
                }
                due(g + " and " + h + " of one", classOf[g] == classOf[h], one);
            }
        }
        due("of a ring each is alone", Benches.of(-2, -3, -1).about(2), 6);
        due("of signs each is alone", Benches.signs().about(2), 8);
        due("of element 0 alone", new TurnBench().about(2), 1);
        due("of all 48", Benches.cube().about(2), 10);
    }

    @Sentence(at = "Terms 1", text = "numbered 0, 1, .. by their least ELEMENTS.")
    static void t1_classesNumbered() {
        for (TurnBench x : new TurnBench[] {Benches.cube(), Benches.orders(), Benches.of(2, -1, -3, 1, 3, 2)}) {
            int next = 0;
            int size = x.about(0);
            for (int g = 0; g < size; g++) {
                int c = x.of(g, 2);
                due("class of " + g + " is no later than the next new one", c >= 0 && c <= next, true);
                next = Math.max(next, c + 1);
            }
            due("how many", x.about(2), next);
            due("class of 0", x.of(0, 2), 0);
            due("none else is of that", x.of(1, 2), 1);
        }
    }

    @Sentence(at = "Terms 1",
        text = "A MIRROR is an ELEMENT other than 0 that leaves all places of a plane as they are.")
    static void t1_mirror() {
        due("0, which leaves all", new TurnBench().of(0, 3), 0);
        due("0 among others", Benches.cube().of(0, 3), 0);
        int[][] mirrors = {{-1, 2, 3}, {1, -2, 3}, {1, 2, -3}, {2, 1, 3}, {-2, -1, 3}, {3, 2, 1}, {-3, 2, -1},
            {1, 3, 2}, {1, -3, -2}};
        for (int[] m : mirrors) {
            due("a mirror", Benches.of(m).of(1, 3), 1);
        }
        int[][] others = {{-1, -2, 3}, {-1, -2, -3}, {2, -1, 3}, {2, 1, -3}, {-2, -1, -3}, {2, 3, 1}, {-2, 3, 1},
            {-2, -3, 1}, {-2, -3, -1}, {-1, 3, 2}, {1, -3, 2}};
        for (int[] m : others) {
            due("it leaves a line or less", Benches.of(m).of(1, 3), 0);
        }
        due("of all 48 nine are", Benches.cube().about(4), 9);
    }

    @Sentence(at = "Terms 1", text = "A SIGN gives each ELEMENT 1 or -1, to TIMES g, h the product of both.")
    static void t1_sign() {
        TurnBench x = Benches.cube();
        int[][] rows = new int[4][48];
        for (int c = 0; c < 4; c++) {
            for (int g = 0; g < 48; g++) {
                rows[c][g] = x.sign(c, g);
                due("1 or -1", rows[c][g] * rows[c][g], 1);
            }
        }
        for (int g = 0; g < 48; g++) {
            for (int h = 1; h < 48; h += 23) {
                int both = Math.floorMod(x.times(g, h), 48);
                for (int c = 0; c < 4; c++) {
                    due("sign " + c + " of times " + g + ", " + h, rows[c][both], rows[c][g] * rows[c][h]);
                }
            }
        }
    }

    @Sentence(at = "Terms 1", text = "SIGNS are numbered 0, 1, .. by the row of what they give ELEMENTS 0, 1, ..:"
        + " 1 ahead of -1 at the first unlikeness (0 gives all 1).")
    static void t1_signsNumbered() {
        TurnBench x = Benches.signs();
        for (int c = 0; c < 8; c++) {
            for (int t = 0; t < 3; t++) {
                due("sign " + c + " of turn " + t, x.sign(c, t + 1), (c >> 2 - t & 1) == 0 ? 1 : -1);
            }
        }
        // turn 0 leaves all, turn 2 is turn 1 again: what they are given is no choice
        TurnBench y = Benches.of(1, 2, 3, 2, 1, 3, 2, 1, 3, 1, 2, -3);
        int[][] rows = {{1, 1, 1, 1}, {1, 1, -1, -1}, {1, -1, 1, -1}, {1, -1, -1, 1}};
        due("how many", y.about(3), 4);
        for (int c = 0; c < 4; c++) {
            for (int g = 0; g < 4; g++) {
                due("sign " + c + " of " + g, y.sign(c, g), rows[c][g]);
            }
        }
    }

    @Sentence(at = "Terms 1", text = "SIGNS are numbered 0, 1, .. by the row of what they give ELEMENTS 0, 1, ..:"
        + " 1 ahead of -1 at the first unlikeness (0 gives all 1).")
    static void t1_sign0GivesAll1() {
        TurnBench x = Benches.cube();
        for (int g = 0; g < 48; g++) {
            due("sign(0, " + g + ")", x.sign(0, g), 1);
        }
        due("of element 0 alone", new TurnBench().sign(0, 0), 1);
        due("it has no other", new TurnBench().about(3), 1);
        due("of twelve no other", Benches.of(2, 3, 1, -1, -2, 3).about(3), 1);
    }

    // ---- Terms 2

    @Sentence(at = "Terms 2", text = "POLYNOMIALS 0 .. 7")
    static void t2_polynomials0To7() {
        TurnBench x = new TurnBench();
        due("put -1", x.put(-1, 0, 0, 0, 1), false);
        for (int p = 0; p < 8; p++) {
            due("put " + p, x.put(p, 0, 0, 0, p + 1), true);
        }
        due("put 8", x.put(8, 0, 0, 0, 1), false);
        for (int p = 0; p < 8; p++) {
            due("each has its own", x.number(p, 0, 0, 0), p + 1);
        }
    }

    @Sentence(at = "Terms 2", text = "for each three POWERS i, j, k (of LETTERS 0, 1, 2) with i + j + k at most 8")
    static void t2_powersAtMost8() {
        for (int i = -1; i <= 9; i++) {
            TurnBench x = new TurnBench();
            for (int j = -1; j <= 9; j++) {
                for (int k = -1; k <= 9; k++) {
                    boolean right = i >= 0 && j >= 0 && k >= 0 && i + j + k <= 8;
                    due("put(0, " + i + ", " + j + ", " + k + ", 1)", x.put(0, i, j, k, 1), right);
                }
            }
        }
    }

    @Sentence(at = "Terms 2", text = "for each three POWERS i, j, k (of LETTERS 0, 1, 2) with i + j + k at most 8")
    static void t2_powersOfTheirLetters() {
        TurnBench x = new TurnBench();
        x.put(0, 3, 0, 0, 1);
        x.put(1, 0, 3, 0, 1);
        x.put(2, 0, 0, 3, 1);
        due("of letter 0", x.value(0, 2, 3, 5), 8);
        due("of letter 1", x.value(1, 2, 3, 5), 27);
        due("of letter 2", x.value(2, 2, 3, 5), 125);
    }

    @Sentence(at = "Terms 2", text = "a NUMBER 0 .. 32002")
    static void t2_numbers0To32002() {
        TurnBench x = new TurnBench();
        int[][] told = {{0, 0}, {1, 1}, {32002, 32002}, {32003, 0}, {-1, 32002}, {-32002, 1}, {-32003, 0}};
        for (int[] n : told) {
            x.put(0, 1, 0, 0, n[0]);
            due("number of " + n[0], x.number(0, 1, 0, 0), n[1]);
        }
    }

    @Sentence(at = "Terms 2", text = "all is reckoned modulo 32003 (numbers that are told may be any ints:"
        + " by what is left over, 0 or more).")
    static void t2_anyInts() {
        TurnBench x = new TurnBench();
        int[] told = {LEAST, LEAST + 1, GREATEST, GREATEST - 1, 32004, -32004, 64006, -64006, 1 << 30, -(1 << 30),
            67102 * 32003, 67102 * 32003 - 1, -67102 * 32003, -67102 * 32003 - 1, 65535, 65536};
        for (int n : told) {
            int left = (int) ((n % 32003L + 32003L) % 32003L);
            due("put " + n, x.put(0, 1, 0, 0, n), true);
            due("number of " + n, x.number(0, 1, 0, 0), left);
            x.put(1, 0, 0, 0, 1);
            due("sum by n, " + n, x.sum(2, 1, n, 3, 1), left == 0 ? -1 : 0);
            due("its number", x.number(2, 0, 0, 0), left);
            due("sum by m, " + n, x.sum(2, 3, 1, 1, n), left == 0 ? -1 : 0);
            due("its number", x.number(2, 0, 0, 0), left);
            x.put(4, 1, 0, 0, 1);
            due("value at " + n, x.value(4, n, 0, 0), left);
        }
    }

    @Sentence(at = "Terms 2", text = "DEGREE: the greatest i + j + k with a NUMBER not 0")
    static void t2_degree() {
        TurnBench x = new TurnBench();
        x.put(0, 0, 0, 0, 1);
        due("0", x.degree(0), 0);
        int[][] powers = {{0, 0, 1}, {1, 1, 0}, {0, 3, 0}, {2, 0, 2}, {1, 2, 2}, {0, 0, 6}, {0, 7, 0}, {3, 3, 2}};
        for (int d = 1; d <= 8; d++) {
            x.put(0, powers[d - 1][0], powers[d - 1][1], powers[d - 1][2], 32002);
            due("" + d, x.degree(0), d);
        }
        for (int d = 8; d >= 1; d--) {
            x.put(0, powers[d - 1][0], powers[d - 1][1], powers[d - 1][2], 32003);
            due("without " + d, x.degree(0), d - 1);
        }
    }

    @Sentence(at = "Terms 2", text = "NONE of 0.")
    static void t2_degreeOf0() {
        TurnBench x = new TurnBench();
        due("at first", x.degree(0), TurnBench.NONE);
        x.put(0, 0, 0, 0, 5);
        due("of a number", x.degree(0), 0);
        x.put(0, 0, 0, 0, 0);
        due("0 again", x.degree(0), TurnBench.NONE);
    }

    @Sentence(at = "Terms 2", text = "Turned by an ELEMENT: each LETTER becomes what the ELEMENT sends it to"
        + " (a sign is less one).")
    static void t2_turned_oddAndEvenPowers() {
        TurnBench x = Benches.of(-2, 3, -1);
        int[][] powers = {{0, 0, 0}, {1, 0, 0}, {2, 0, 0}, {0, 1, 0}, {0, 0, 1}, {1, 0, 1}, {1, 3, 2}, {7, 1, 0},
            {0, 0, 8}, {8, 0, 0}};
        for (int[] p : powers) {
            x.sum(0, 0, 0, 0, 0);
            x.put(0, p[0], p[1], p[2], 3);
            x.turned(1, 0, 1);
            int want = (p[0] + p[2]) % 2 == 0 ? 3 : 32000;
            due("turned " + p[0] + " " + p[1] + " " + p[2], x.number(1, p[2], p[0], p[1]), want);
        }
    }

    @Sentence(at = "Terms 2", text = "MEAN for a SIGN: the sum over all ELEMENTS of what the SIGN gives times the"
        + " POLYNOMIAL turned, by how many they are (modulo 32003).")
    static void t2_mean_by1AndBy48() {
        TurnBench x = new TurnBench();
        x.put(0, 3, 2, 1, 32002);
        due("by 1", x.mean(1, 0, 0), 6);
        due("itself", x.number(1, 3, 2, 1), 32002);
        TurnBench y = Benches.cube();
        y.put(0, 4, 2, 0, 1);
        y.put(0, 1, 0, 0, 1);
        y.put(0, 0, 0, 0, 32002);
        due("by 48", y.mean(1, 0, 0), 6);
        due("8 of 48", y.number(1, 0, 2, 4), 5334);
        due("6 times that", 5334 * 6 % 32003, 1);
        due("what goes", y.number(1, 1, 0, 0), 0);
        due("48 of 48", y.number(1, 0, 0, 0), 32002);
    }

    @Sentence(at = "Terms 2", text = "MEAN for a SIGN: the sum over all ELEMENTS of what the SIGN gives times the"
        + " POLYNOMIAL turned, by how many they are (modulo 32003).")
    static void t2_mean_fullAndEmpty() {
        TurnBench x = Benches.signs();
        Benches.fill(x, 0, 8, 32002);
        due("full", x.mean(1, 0, 0), 8);
        for (int i = 0; i <= 8; i++) {
            for (int j = 0; i + j <= 8; j++) {
                for (int k = 0; i + j + k <= 8; k++) {
                    boolean even = i % 2 == 0 && j % 2 == 0 && k % 2 == 0;
                    due("number " + i + " " + j + " " + k, x.number(1, i, j, k), even ? 32002 : 0);
                }
            }
        }
        due("empty", x.mean(1, 2, 0), -1);
        due("empty, the last sign", x.mean(1, 2, 7), -1);
        due("full, the last sign: all powers odd", x.mean(1, 0, 7), 7);
        due("1 1 1", x.number(1, 1, 1, 1), 32002);
        due("2 2 2", x.number(1, 2, 2, 2), 0);
    }

    @Sentence(at = "Terms 2",
        text = "It STAYS for a SIGN if each ELEMENT turns it into itself times what the SIGN gives.")
    static void t2_stays_emptyAndFull() {
        TurnBench x = Benches.cube();
        for (int c = 0; c < 4; c++) {
            due("0 for sign " + c, x.stays(0, c), 1);
        }
        TurnBench y = Benches.orders();
        Benches.fill(y, 0, 8, 32002);
        due("all numbers alike, sign 0", y.stays(0, 0), 1);
        due("all numbers alike, sign 1", y.stays(0, 1), 0);
        y.put(0, 8, 0, 0, 32001);
        due("one unlike at the first", y.stays(0, 0), 0);
        y.put(0, 8, 0, 0, 32002);
        y.put(0, 0, 0, 8, 0);
        due("one 0 at the last", y.stays(0, 0), 0);
        TurnBench z = new TurnBench();
        z.put(0, 1, 7, 0, 6);
        due("for element 0 alone all stay", z.stays(0, 0), 1);
    }

    @Sentence(at = "Terms 2",
        text = "It STAYS for a SIGN if each ELEMENT turns it into itself times what the SIGN gives.")
    static void t2_stays_theLastElementCounts() {
        TurnBench x = Benches.of(2, 1, 3, 1, 2, -3);
        x.put(0, 1, 0, 1, 4);
        x.put(0, 0, 1, 1, 4);
        due("the swap leaves it, the sign does not", x.stays(0, 0), 0);
        due("for the sign that gives the last turn -1", x.stays(0, 1), 1);
        due("sign 1 of the swap", x.sign(1, 1), 1);
        due("sign 1 of the other", x.sign(1, 2), -1);
    }

    @Sentence(at = "Terms 2", text = "COUNT of a degree and a SIGN: how many POLYNOMIALS of that degree alone"
        + " (all i + j + k alike) that STAY there are of which none is a sum of multiples of the others.")
    static void t2_count_noneAndAll() {
        due("all of degree 8", new TurnBench().count(8, 0), 45);
        due("all of degree 0", new TurnBench().count(0, 0), 1);
        TurnBench x = Benches.back();
        for (int d = 0; d <= 8; d++) {
            int all = (d + 1) * (d + 2) / 2;
            due("degree " + d + ", sign 0", x.count(d, 0), d % 2 == 0 ? all : 0);
            due("degree " + d + ", sign 1", x.count(d, 1), d % 2 == 0 ? 0 : all);
        }
        TurnBench y = Benches.signs();
        due("the least for sign 7", y.count(3, 7), 1);
        due("none below it", y.count(2, 7), 0);
        due("the one of degree 0 stays for sign 0 alone", y.count(0, 1), 0);
    }

    @Sentence(at = "Terms 2", text = "SERIES: the sum over all ELEMENTS g of what the SIGN gives times what stands at"
        + " t to that degree in 1 by D(g), by how many they are")
    static void t2_series_firstAndLast() {
        due("one element, degree 0", new TurnBench().series(0, 0), 1);
        due("one element, degree 200", new TurnBench().series(200, 0), 20301);
        TurnBench x = Benches.cube();
        due("48 elements, degree 0", x.series(0, 0), 1);
        due("48 elements, degree 199", x.series(199, 0), 0);
        due("48 elements, degree 200", x.series(200, 0), 884);
        due("all four signs of degree 0", x.series(0, 1) + x.series(0, 2) + x.series(0, 3), 0);
    }

    @Sentence(at = "Terms 2", text = "D(g) is the product, for each ring of LETTERS that g leads to one another"
        + " (of length m; s the product of its signs), of 1 - s t to the m.")
    static void t2_series_rings() {
        // a ring of 3 alone: a third of all, and two thirds of 1 by 1 - t t t
        TurnBench three = Benches.of(2, 3, 1);
        due("degree 2", three.series(2, 0), 2);
        due("degree 3", three.series(3, 0), 4);
        due("degree 198", three.series(198, 0), 6634);
        due("degree 200", three.series(200, 0), 6767);
        // a ring of 2 and one of 1: half of all, and half of 1 by (1 - t t) (1 - t)
        TurnBench two = Benches.of(2, 1, 3);
        due("degree 200", two.series(200, 0), (20301 + 101) / 2);
        due("degree 200, the other sign", two.series(200, 1), (20301 - 101) / 2);
        due("degree 199", two.series(199, 0), (20100 + 100) / 2);
        // the same with a sign: 1 by (1 + t t) (1 - t), and twice done 1 by (1 + t) (1 + t) (1 - t)
        TurnBench four = Benches.of(2, -1, 3);
        due("degree 1", four.series(1, 0), 1);
        due("degree 2", four.series(2, 0), 2);
        due("degree 3", four.series(3, 0), 2);
        due("degree 4", four.series(4, 0), 5);
        due("degree 200", four.series(200, 0), (20301 + 101 + 2) / 4);
        // three rings of 1 with signs
        due("degree 7", Benches.signs().series(7, 7), 6);
    }

    // ---- Terms 3

    @Sentence(at = "Terms 3", text = "THE FEW of THE GROUP: degree by degree, 1 .. 6")
    static void t3_fewOfDegree1To6() {
        TurnBench none = new TurnBench();
        for (int i = 0; i < 3; i++) {
            due("degree 1", none.few(0, i), 1);
        }
        due("none of degree 0, so no fourth", none.about(6), 3);
        TurnBench six = Benches.of(-2, -3, -1);
        int[] degrees = {2, 2, 4, 4, 6, 6};
        for (int i = 0; i < 6; i++) {
            due("degree of few " + i, six.few(0, i), degrees[i]);
        }
        // all that stay are made of them and of one of degree 9, which is none of the few
        TurnBench rotations = Benches.of(2, -1, 3, 2, 3, 1);
        due("no few of degree 9", rotations.about(6), 3);
        due("the last of them", rotations.few(0, 2), 6);
        due("and one of degree 5 is", Benches.of(2, -1, 3, 1, -2, -3).few(0, 3), 5);
    }

    @Sentence(at = "Terms 3", text = "the POWERS i, j, k of that degree in their order (the greater i first, then the"
        + " greater j)")
    static void t3_powersInTheirOrder() {
        TurnBench x = Benches.back();
        int[][] powers = {{2, 0, 0}, {1, 1, 0}, {1, 0, 1}, {0, 2, 0}, {0, 1, 1}, {0, 0, 2}};
        for (int i = 0; i < 6; i++) {
            x.few(0, i);
            due("few " + i, x.number(0, powers[i][0], powers[i][1], powers[i][2]), 1);
        }
        // of degree 3, behind x x x: x x y and x x z are turned to unlike ones, x x y is asked first
        TurnBench y = Benches.of(2, 3, 1);
        y.few(0, 3);
        due("x x y", y.number(0, 2, 1, 0), 10668);
        due("x x z", y.number(0, 2, 0, 1), 0);
    }

    @Sentence(at = "Terms 3", text = "MEAN for SIGN 0 of that one alone is one of the FEW, if it is no sum of multiples"
        + " of products of those FEW that were told ahead (of lesser degrees, and of this one).")
    static void t3_few_noneThatIsASum() {
        // the mean of x y is 0, the means of x x and y y are the same, z z is the square of z
        TurnBench x = Benches.of(2, -1, 3);
        int[] degrees = {1, 2, 4, 4};
        due("how many", x.about(6), 4);
        for (int i = 0; i < 4; i++) {
            due("degree of few " + i, x.few(0, i), degrees[i]);
        }
        x.few(0, 3);
        due("x x x y", x.number(0, 3, 1, 0), 16002);
        due("x y y y", x.number(0, 1, 3, 0), 16001);
        due("x x y y is a sum of the square and x x x x", x.laws(4, 1), 0);
    }

    @Sentence(at = "Terms 3", text = "PRODUCTS of degree d: of FEW (each as often as one likes), whose degrees make d")
    static void t3_products_noneAndMost() {
        TurnBench x = Benches.back();
        due("none of an odd degree", x.laws(5, 0), 0);
        due("none of degree 1", x.laws(1, 0), 0);
        due("the most: of degree 6", x.laws(6, 0), 56);
        due("the most: of degree 4", x.laws(4, 0), 21);
        due("six times the same one", new TurnBench().laws(6, 0), 28);
        due("a few itself is one", Benches.cube().laws(6, 0), 3);
    }

    @Sentence(at = "Terms 3", text = "told by how often FEW 0, 1, .. come; in their order: the greater number first at"
        + " the first unlikeness.")
    static void t3_productsInTheirOrder() {
        TurnBench x = new TurnBench();
        int[][] powers = {{2, 0, 0}, {1, 1, 0}, {1, 0, 1}, {0, 2, 0}, {0, 1, 1}, {0, 0, 2}};
        for (int i = 5; i >= 0; i--) {
            x.put(0, powers[i][0], powers[i][1], powers[i][2], i + 1);
        }
        due("made(0)", x.made(0), 6);
        for (int i = 0; i < 6; i++) {
            due("multiple of part " + i, x.part(i, 0), i + 1);
            for (int k = 0; k < 3; k++) {
                due("few " + k + " in part " + i, x.part(i, 2 + k), powers[i][k]);
            }
        }
    }

    @Sentence(at = "Terms 3", text = "told by how often FEW 0, 1, .. come; in their order: the greater number first at"
        + " the first unlikeness.")
    static void t3_productsInTheirOrder_ofUnlikeDegrees() {
        // few a, b, c of degrees 1, 2, 3: a a a ahead of a b, that ahead of c, which alone is of this degree
        TurnBench x = Benches.orders();
        x.put(0, 1, 1, 1, 2);
        due("made(0)", x.made(0), 3);
        int[][] parts = {{9, 3, 3, 0, 0}, {31994, 3, 1, 1, 0}, {2, 3, 0, 0, 1}};
        for (int i = 0; i < 3; i++) {
            for (int what = 0; what < 5; what++) {
                due("part(" + i + ", " + what + ")", x.part(i, what), parts[i][what]);
            }
        }
    }

    @Sentence(at = "Terms 3", text = "LAWS of a degree: how many PRODUCTS it has, less its COUNT for SIGN 0.")
    static void t3_laws_noneAndMost() {
        TurnBench x = Benches.back();
        TurnBench y = Benches.of(2, 3, 1);
        for (int d = 0; d <= 6; d++) {
            due("degree " + d, x.laws(d, 1), x.laws(d, 0) - x.count(d, 0));
            due("degree " + d, y.laws(d, 1), d == 6 ? 1 : 0);
            due("of element 0 alone none", new TurnBench().laws(d, 1), 0);
        }
        due("the most", x.laws(6, 1), 28);
        due("the first that has any", x.laws(4, 1), 6);
    }

    @Sentence(at = "Terms 3",
        text = "A POLYNOMIAL that STAYS for SIGN 0, of DEGREE 6 at most, is MADE, degree by degree"
        + " (the lesser ahead), of those PRODUCTS of the degree that are no sums of multiples of PRODUCTS ahead of them"
        + " in their order: in just one way")
    static void t3_made_degreeByDegree() {
        TurnBench x = new TurnBench();
        for (int d = 6; d >= 0; d--) {
            x.put(0, 0, 0, d, d + 1);
        }
        due("of degree 6", x.made(0), 7);
        for (int i = 0; i < 7; i++) {
            due("degree of part " + i, x.part(i, 1), i);
            due("multiple of part " + i, x.part(i, 0), i + 1);
            due("few 2 in part " + i, x.part(i, 4), i);
        }
        x.put(0, 0, 0, 7, 1);
        due("of degree 7", x.made(0), TurnBench.NONE);
    }

    @Sentence(at = "Terms 3",
        text = "A POLYNOMIAL that STAYS for SIGN 0, of DEGREE 6 at most, is MADE, degree by degree"
        + " (the lesser ahead), of those PRODUCTS of the degree that are no sums of multiples of PRODUCTS ahead of them"
        + " in their order: in just one way")
    static void t3_made_notOfAProductThatIsASum() {
        // few 0 .. 5 are xx, xy, xz, yy, yz, zz: xy xy is xx yy, which comes ahead, and so are the others
        TurnBench x = Benches.back();
        int[][] squares = {{2, 2, 0, 0, 3}, {2, 0, 2, 0, 5}, {0, 2, 2, 3, 5}};
        for (int[] s : squares) {
            x.sum(0, 0, 0, 0, 0);
            x.put(0, s[0], s[1], s[2], 7);
            due("made(0)", x.made(0), 1);
            for (int k = 0; k < 6; k++) {
                due("few " + k, x.part(0, 2 + k), k == s[3] || k == s[4] ? 1 : 0);
            }
        }
        x.sum(0, 0, 0, 0, 0);
        x.put(0, 2, 2, 2, 7);
        due("made(0)", x.made(0), 1);
        int[] often = {1, 0, 0, 1, 0, 1};
        for (int k = 0; k < 6; k++) {
            due("few " + k + " of xx yy zz", x.part(0, 2 + k), often[k]);
        }
    }

    @Sentence(at = "Terms 3", text = "those whose multiple is not 0 are its PARTS, in this order.")
    static void t3_parts_noneAndAll() {
        TurnBench x = new TurnBench();
        due("0 has none", x.made(0), 0);
        due("part(0, 0)", x.part(0, 0), TurnBench.NONE);
        Benches.fill(x, 0, 6, 32002);
        due("full", x.made(0), 84);
        int at = 0;
        for (int d = 0; d <= 6; d++) {
            for (int i = d; i >= 0; i--) {
                for (int j = d - i; j >= 0; j--) {
                    due("multiple of part " + at, x.part(at, 0), 32002);
                    due("degree of part " + at, x.part(at, 1), d);
                    due("few 0 in part " + at, x.part(at, 2), i);
                    due("few 1 in part " + at, x.part(at, 3), j);
                    at++;
                }
            }
        }
        due("part(84, 0)", x.part(84, 0), TurnBench.NONE);
    }

    @Sentence(at = "Terms 3", text = "(Of degree 0: the one PRODUCT of nothing.)")
    static void t3_productOfNothing() {
        for (TurnBench x : new TurnBench[] {new TurnBench(), Benches.back(), Benches.cube()}) {
            due("products of degree 0", x.laws(0, 0), 1);
            due("laws of degree 0", x.laws(0, 1), 0);
            x.put(0, 0, 0, 0, 32002);
            due("made(0)", x.made(0), 1);
            due("its multiple", x.part(0, 0), 32002);
            due("its degree", x.part(0, 1), 0);
            int few = x.about(6);
            for (int k = 0; k < few; k++) {
                due("few " + k, x.part(0, 2 + k), 0);
            }
            due("no few more", x.part(0, 2 + few), TurnBench.NONE);
        }
    }

    // ---- Terms 4

    @Sentence(at = "Terms 4", text = "A PLACE is three ints u, v, w.")
    static void t4_placeOfAnyInts() {
        TurnBench x = Benches.of(2, 3, 1);
        due("images", x.images(LEAST, GREATEST, -1), 3);
        int[][] places = {{LEAST, GREATEST, -1}, {-1, LEAST, GREATEST}, {GREATEST, -1, LEAST}};
        for (int i = 0; i < 3; i++) {
            for (int what = 0; what < 3; what++) {
                due("image(" + i + ", " + what + ")", x.image(i, what), places[i][what]);
            }
            due("leads to image " + i, x.leads(places[i][0], places[i][1], places[i][2]), i);
        }
        TurnBench y = Benches.of(-1, 2, 3);
        y.images(GREATEST, 0, 0);
        due("with the sign", y.image(1, 0), -GREATEST);
        due("places are not by what is left over", y.leads(GREATEST - 32003, 0, 0), TurnBench.NONE);
    }

    @Sentence(at = "Terms 4", text = "An ELEMENT leads it to the PLACE whose number at the letter to which it sends"
        + " LETTER 0 (1, 2) is u (v, w), times the sign.")
    static void t4_whereAnElementLeads() {
        TurnBench x = Benches.of(-2, 3, 1);
        x.images(1, 2, 3);
        // at letter 1 stands less u, at letter 2 stands v, at letter 0 stands w
        due("image(1, 0)", x.image(1, 0), 3);
        due("image(1, 1)", x.image(1, 1), -1);
        due("image(1, 2)", x.image(1, 2), 2);
        due("leads", x.leads(3, -1, 2), 1);
        due("not the other way", x.leads(-2, 3, 1), 5);
    }

    @Sentence(at = "Terms 4",
        text = "IMAGES: the PLACES to which ELEMENTS lead it, each once, in the order of the least"
        + " ELEMENT.")
    static void t4_imagesEachOnce() {
        TurnBench x = Benches.cube();
        due("all unlike", x.images(1, 2, 3), 48);
        due("all 0", x.images(0, 0, 0), 1);
        due("one not 0", x.images(0, 7, 0), 6);
        int before = -1;
        for (int i = 0; i < 6; i++) {
            int g = x.leads(x.image(i, 0), x.image(i, 1), x.image(i, 2));
            due("least element of image " + i + " is behind that of the one ahead", g > before, true);
            before = g;
        }
        due("image 0 is the place itself", x.image(0, 1), 7);
        due("no seventh", x.image(6, 1), 0);
    }
}
