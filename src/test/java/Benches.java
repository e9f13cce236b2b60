import java.util.ArrayList;
import java.util.List;
import java.util.function.Consumer;

/** The objects that tests begin with, and all that can be seen of one. No object is asked more than 512 times. */
final class Benches {
    static final int LEAST = Integer.MIN_VALUE;
    static final int GREATEST = Integer.MAX_VALUE;
    static final int PRIME = 32003;

    private Benches() {
    }

    /** What no index of anything with so many members is: the first on either side, and the farthest. */
    static int[] beyond(int howMany) {
        return new int[] {-1, howMany, LEAST, GREATEST, LEAST + 1, -howMany, howMany + 1, 1 << 30, 256, 65536};
    }

    /** An object whose group is made of these turns, told by their codes. */
    static TurnBench of(int... codes) {
        TurnBench x = new TurnBench();
        for (int i = 0; i + 2 < codes.length; i += 3) {
            Sentences.due("turn", x.turn(i / 3, codes[i], codes[i + 1], codes[i + 2]), true);
        }
        x.group();
        return x;
    }

    /** All 48 turns. */
    static TurnBench cube() {
        return of(2, 3, 1, 2, 1, 3, -1, 2, 3);
    }

    /** All orders of the letters: 6 elements, 2 signs. */
    static TurnBench orders() {
        return of(2, 3, 1, 2, 1, 3);
    }

    /** All signs of the letters: 8 elements, 8 signs. */
    static TurnBench signs() {
        return of(-1, 2, 3, 1, -2, 3, 1, 2, -3);
    }

    /** All signs at once: 2 elements, 2 signs, 6 few. */
    static TurnBench back() {
        return of(-1, -2, -3);
    }

    /** All numbers of p up to a degree are n. */
    static void fill(TurnBench x, int p, int degree, int n) {
        for (int i = 0; i <= degree; i++) {
            for (int j = 0; i + j <= degree; j++) {
                for (int k = 0; i + j + k <= degree; k++) {
                    x.put(p, i, j, k, n);
                }
            }
        }
    }

    /**
     * An object with 4 elements and 3 few, with turns that are told but not yet in the group, with no polynomial that
     * is 0, with 4 parts, and with 4 images.
     */
    static TurnBench busy() {
        TurnBench x = new TurnBench();
        x.turn(0, 2, 1, 3);
        x.turn(2, 1, 2, -3);
        x.group();
        x.turn(2, -1, 2, 3);
        x.turn(3, 2, 3, 1);
        for (int p = 0; p < 7; p++) {
            x.put(p, p % 3, 1, 2, p + 2);
            x.put(p, 0, 0, p, 31000 + p);
        }
        x.few(7, 2);
        x.put(7, 0, 0, 0, 5);
        x.put(7, 1, 1, 0, 9);
        x.made(7);
        x.images(3, 5, 9);
        return x;
    }

    /** All that can be seen; at the end the group is made of the told turns and these are dropped. */
    static List<String> look(TurnBench x) {
        List<String> seen = new ArrayList<>();
        for (int i = 0; i < 5; i++) {
            for (int what = 0; what < 6; what++) {
                seen.add("part(" + i + ", " + what + ") " + x.part(i, what));
            }
        }
        for (int i = 0; i < 5; i++) {
            for (int what = 0; what < 3; what++) {
                seen.add("image(" + i + ", " + what + ") " + x.image(i, what));
            }
        }
        seen.add("leads(5, 3, 9) " + x.leads(5, 3, 9));
        seen.add("leads(3, 5, -9) " + x.leads(3, 5, -9));
        for (int p = 0; p < 8; p++) {
            seen.add("degree(" + p + ") " + x.degree(p));
            seen.add("value(" + p + ", 7, 11, 1300) " + x.value(p, 7, 11, 1300));
            seen.add("value(" + p + ", 31001, -3, 500) " + x.value(p, 31001, -3, 500));
        }
        lookAtGroup(x, seen);
        seen.add("group() " + x.group());
        lookAtGroup(x, seen);
        for (int i = 0; i < 4; i++) {
            seen.add("drop(" + i + ") " + x.drop(i));
        }
        return seen;
    }

    private static void lookAtGroup(TurnBench x, List<String> seen) {
        for (int what = 0; what < 8; what++) {
            seen.add("about(" + what + ") " + x.about(what));
        }
        int size = Math.min(48, x.about(0));
        for (int g = 0; g < size; g++) {
            for (int i = 0; i < 3; i++) {
                seen.add("element(" + g + ", " + i + ") " + x.element(g, i));
            }
        }
    }

    /** All that the group makes: numbers, elements, signs, counts, the few, and how one polynomial is made of them. */
    static List<String> lookAtGroupClosely(TurnBench x) {
        List<String> seen = new ArrayList<>();
        lookAtGroup(x, seen);
        int size = Math.min(48, x.about(0));
        for (int g = 0; g < size; g++) {
            seen.add("of(" + g + ", 0) " + x.of(g, 0));
            seen.add("of(" + g + ", 2) " + x.of(g, 2));
            seen.add("sign(1, " + g + ") " + x.sign(1, g));
        }
        for (int d = 0; d <= 6; d++) {
            seen.add("count(" + d + ", 0) " + x.count(d, 0));
            seen.add("series(" + (d + 194) + ", 0) " + x.series(d + 194, 0));
            seen.add("laws(" + d + ", 0) " + x.laws(d, 0));
        }
        for (int i = 0; i < 7; i++) {
            seen.add("few(7, " + i + ") " + x.few(7, i));
            seen.add("value(7, 7, 11, 1300) " + x.value(7, 7, 11, 1300));
        }
        for (int i = 0; i <= 6; i++) {
            x.put(6, i, (6 - i) / 2, 0, i + 1);
        }
        seen.add("mean(6, 6, 0) " + x.mean(6, 6, 0));
        seen.add("made(6) " + x.made(6));
        for (int i = 0; i < 8; i++) {
            for (int what = 0; what < 9; what++) {
                seen.add("part(" + i + ", " + what + ") " + x.part(i, what));
            }
        }
        return seen;
    }

    /** That these calls change nothing that can be seen. */
    static void changesNothing(Consumer<TurnBench> calls) {
        TurnBench x = busy();
        calls.accept(x);
        Sentences.due("behind calls that change nothing", look(x), look(busy()));
    }
}
