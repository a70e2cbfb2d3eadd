public final class Promise05StackTest {
    public static void main(String[] args) {
        Talk t = new Talk("stack").run("10 20 -30");
        at(t, 0, -30);
        at(t, 1, 20);
        at(t, 2, 10);
        int[] none = {3, 4, 23, 24, 25, -1, Integer.MIN_VALUE, Integer.MAX_VALUE};
        for (int k : none) {
            at(t, k, 0);
        }
        t.run("drop");
        at(t, 0, 20);
        at(t, 2, 0);
        t.fails("nope", 1, 0);
        at(t, 0, 0);
        t.run("1 2 3 4 5 6 7 8 9 10 11 12 13 14 15 16 17 18 19 20 21 22 23 24");
        at(t, 23, 1);
        at(t, 24, 0);
        at(t, 0, 24);
        Talk.end();
    }

    private static void at(Talk t, int k, int want) {
        t.due("stack(" + k + ")", t.smith.stack(k), want);
    }
}
