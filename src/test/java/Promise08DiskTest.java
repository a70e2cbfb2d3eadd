public final class Promise08DiskTest {
    public static void main(String[] args) {
        Talk t = new Talk("disk");
        t.run("0 block 5 over ! 15 + 6 swap ! update").disk(0, 0, 0).cell(64, 5);
        t.run("flush").disk(0, 0, 5).disk(0, 15, 6).disk(0, 1, 0).disk(1, 0, 0);
        t.run("3 block 7 over ! 15 + 8 swap ! update flush").disk(3, 0, 7).disk(3, 15, 8);
        int[] none = {-1, 16, 17, Integer.MIN_VALUE, Integer.MAX_VALUE};
        for (int i : none) {
            t.disk(0, i, 0).disk(3, i, 0);
        }
        int[] noBlock = {-1, 4, 5, Integer.MIN_VALUE, Integer.MAX_VALUE};
        for (int b : noBlock) {
            t.disk(b, 0, 0).disk(b, 15, 0);
        }
        t.disk(-1, 16, 0).disk(0, 0, 5);
        Talk.end();
    }
}
