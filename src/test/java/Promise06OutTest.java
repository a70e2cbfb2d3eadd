public final class Promise06OutTest {
    public static void main(String[] args) {
        Talk t = new Talk("out").run("5 . -6 . 7");
        t.out(5, -6);
        at(t, 2, 0);
        t.run(".").out(5, -6, 7);
        t.run(": many 50 0 do i 100 + . loop ; many").count(2, 53);
        at(t, 3, 100);
        at(t, 39, 136);
        int[] notKept = {40, 41, 52, 53, -1, Integer.MIN_VALUE, Integer.MAX_VALUE};
        for (int k : notKept) {
            at(t, k, 0);
        }
        t.fails("nope", 1, 0);
        at(t, 0, 5);
        Talk.end();
    }

    private static void at(Talk t, int k, int want) {
        t.due("out(" + k + ")", t.smith.out(k), want);
    }
}
