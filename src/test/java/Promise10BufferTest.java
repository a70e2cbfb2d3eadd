public final class Promise10BufferTest {
    public static void main(String[] args) {
        Talk t = new Talk("buffer");
        t.run("update").buffer(0, -1).buffer(1, -1);
        t.run("0 block drop").buffer(0, 0).buffer(1, -1);
        t.run("update").buffer(0, 1);
        t.run("3 block drop").buffer(0, 1).buffer(1, 30);
        t.run("update").buffer(1, 31).run("flush").buffer(0, 0).buffer(1, 30);
        t.run("2 block drop update").buffer(0, 21).buffer(1, 30);
        t.fails("nope", 1, 0).buffer(0, 21);
        int[] none = {-1, 2, 3, 64, Integer.MIN_VALUE, Integer.MAX_VALUE};
        for (int k : none) {
            t.buffer(k, -1);
        }
        Talk.end();
    }
}
