/** "All numbers are ints and wrap. FLAGS are -1 (true) and 0."; "4: a division by 0." */
public final class ArithmeticBoundsTest {
    private static final int MIN = Integer.MIN_VALUE;
    private static final int MAX = Integer.MAX_VALUE;

    public static void main(String[] args) {
        sumsWrap();
        productsWrap();
        quotientsWrap();
        memoryWraps();
        divisionsByZero();
        flags();
        comparisonsAtTheEnds();
        Talk.end();
    }

    /** A talk in which lo and hi are the lowest and the highest int. */
    private static Talk ends(String title) {
        return new Talk(title).run("65536 32768 * constant lo lo 1 - constant hi");
    }

    private static void gives(String text, int... numbers) {
        ends(text).run(text).stack(numbers);
    }

    private static void sumsWrap() {
        gives("lo hi", MIN, MAX);
        gives("hi 1 +", MIN);
        gives("hi 0 +", MAX);
        gives("lo -1 +", MAX);
        gives("lo lo +", 0);
        gives("hi hi +", -2);
        gives("lo 1 -", MAX);
        gives("lo 0 -", MIN);
        gives("hi -1 -", MIN);
        gives("0 lo -", MIN);
        gives("-1 lo -", MAX);
        gives("lo negate", MIN);
        gives("hi negate", MIN + 1);
        gives("0 negate", 0);
    }

    private static void productsWrap() {
        gives("hi 2 *", -2);
        gives("lo 2 *", 0);
        gives("lo -1 *", MIN);
        gives("hi hi *", 1);
        gives("999999 999999 *", -729379967);
        gives("46340 46340 *", 2147395600);
        gives("46341 46341 *", -2147479015);
    }

    private static void quotientsWrap() {
        gives("lo -1 /", MIN);
        gives("lo -1 mod", 0);
        gives("lo 1 /", MIN);
        gives("hi -1 /", MIN + 1);
        gives("lo hi /", -1);
        gives("lo hi mod", -1);
        gives("hi lo /", 0);
        gives("hi lo mod", MAX);
        gives("0 lo /", 0);
        gives("-7 2 / -7 2 mod", -3, -1);
        gives("7 -2 / 7 -2 mod", -3, 1);
        gives("-7 -2 / -7 -2 mod", 3, -1);
    }

    private static void memoryWraps() {
        ends("+! up").run("hi 5 ! 1 5 +!").cell(5, MIN);
        ends("+! down").run("lo 5 ! -1 5 +!").cell(5, MAX);
        ends("cells hold every int").run("lo 0 ! hi 95 ! lo , hi .").cell(0, MIN).cell(95, MAX).out(MAX);
    }

    private static void divisionsByZero() {
        String[] words = {"/", "mod"};
        for (String word : words) {
            ends(word).fails("1 0 " + word, 4, 4).stack().fails("0 0 " + word, 4, 4);
            ends(word).fails("lo 0 " + word + " 5 .", 4, 5).out();
            ends(word).run(": w " + word + " ;").fails("7 0 w", 4, 4).fails("0 w", 2, 2);
            ends(word).run("0 1 " + word + " 0 -1 " + word).stack(0, 0);
        }
    }

    private static void flags() {
        gives("5 5 = 5 6 = 6 5 =", -1, 0, 0);
        gives("5 6 < 5 5 < 6 5 <", -1, 0, 0);
        gives("0 0= 1 0= -1 0=", -1, 0, 0);
    }

    private static void comparisonsAtTheEnds() {
        gives("lo hi < hi lo <", -1, 0);
        gives("lo 0 < 0 lo < hi -1 < -1 hi <", -1, 0, 0, -1);
        gives("lo lo = hi lo = lo 0=", -1, 0, 0);
        gives("lo hi and lo hi or lo hi xor", 0, -1, -1);
    }
}
