public final class Promise07CellTest {
    public static void main(String[] args) {
        Talk t = new Talk("cell").run("11 0 ! 12 63 ! 13 64 ! 14 79 ! 15 80 ! 16 95 !");
        t.cell(0, 11).cell(63, 12).cell(64, 13).cell(79, 14).cell(80, 15).cell(95, 16).cell(1, 0);
        int[] none = {-1, 96, 97, Integer.MIN_VALUE, Integer.MAX_VALUE};
        for (int address : none) {
            t.cell(address, 0);
        }
        t.fails("5 0 +! nope", 1, 7).cell(0, 16);
        t.run("0 block drop").cell(64, 0).cell(79, 0).cell(80, 15).cell(63, 12);
        Talk.end();
    }
}
