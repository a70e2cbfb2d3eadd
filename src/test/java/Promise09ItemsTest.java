public final class Promise09ItemsTest {
    public static void main(String[] args) {
        Talk t = new Talk("items");
        t.run("variable v 5 constant c : empty ; : w 1 dup + v ;");
        t.items(100, 1).items(101, 1).items(102, 0).items(103, 4);
        int[] none = {104, 99, 0, 40, 51, -1, -100, Integer.MIN_VALUE, Integer.MAX_VALUE};
        for (int number : none) {
            t.items(number, -1);
        }
        jumps();
        t.run(": half 1 2").items(104, -1).run(";").items(104, 2);
        t.fails(": lost 1 nope", 1, 9).items(105, -1);
        t.run(": v 1 2 3 ;").items(100, 1).items(105, 3);
        Talk.end();
    }

    private static void jumps() {
        Talk t = new Talk("the items of jumps");
        t.run(": a if then ;").items(100, 1);
        t.run(": b if else then ;").items(101, 2);
        t.run(": c begin until ;").items(102, 1);
        t.run(": d begin again ;").items(103, 1);
        t.run(": e begin while repeat ;").items(104, 2);
        t.run(": f do loop ;").items(105, 2);
        t.run(": g recurse exit i j ;").items(106, 4);
        t.run(": h 1 ; immediate : k h h ;").items(108, 0);
    }
}
