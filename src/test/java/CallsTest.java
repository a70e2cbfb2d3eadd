/** Calls: how deep they go, exit, execute and recurse. */
public final class CallsTest {
    public static void main(String[] args) {
        sixteenCalls();
        exits();
        executes();
        recursion();
        Talk.end();
    }

    private static void sixteenCalls() {
        Talk t = new Talk("sixteen calls").run(": w dup if 1 - recurse then ; 15 w").stack(0);
        t.fails("16 w", 3, 3).stack().run("15 w 15 w").stack(0, 0);
        Talk u = new Talk("a constant is a call").run("5 constant c");
        u.run(": w dup if 1 - recurse else c . then ; 14 w").stack(0).out(5).fails("15 w", 3, 3);
        Talk v = new Talk("execute makes a call").run(": w dup if 1 - 100 execute then ; 15 w");
        v.stack(0).fails("16 w", 3, 3);
        Talk w = new Talk("a call at the end is one in another").run(": w recurse ;").fails("w", 3, 0);
        w.count(6, 600 - 1 - 16);
        Talk x = new Talk("calls one after the other").run(": a ; : b a a a a a a a a a a a a a a a a a a ;");
        x.run("b").count(6, 600 - 1 - 18);
    }

    private static void exits() {
        Talk t = new Talk("exit").run(": a 1 exit 2 ; : b a 3 ; b").stack(1, 3);
        t.fails("4 exit", 6, 2).stack().fails("30 execute", 6, 3);
        t.run(": c 1 30 execute 2 ; c").stack(1);
        t.run(": d exit ; immediate : e d 5 ; e").stack(1, 5);
    }

    private static void executes() {
        Talk t = new Talk("execute").run("2 3 0 execute 12 execute").stack(5, 5);
        t.run(": w 7 ; 100 execute").stack(5, 5, 7);
        int[] none = {32, 33, 34, 35, 36, 40, 41, 44, 50, 51, 52, 53, 99, 101, 102, 124, -1, -100};
        for (int number : none) {
            String text = "5 " + number;
            t.fails(text + " execute", 5, text.length() + 1);
        }
        t.run("2 37 execute 38 execute 39 execute").stack(64).buffer(0, 20).run("drop");
        t.fails("12 execute", 2, 3).fails("1 0 3 execute", 4, 6).fails("96 19 execute", 5, 6);
        executesOfExecute();
        Talk v = new Talk("not yet made").run(": im execute ; immediate");
        v.fails("101 : w 1 im ;", 5, 10).run("101 : w 1 ; im").stack(1);
    }

    private static void executesOfExecute() {
        Talk t = new Talk("execute of execute");
        t.run("7 8 0 31 execute").stack(15).run("drop 1 2 1 31 31 31 execute").stack(-1).run("drop");
        t.fails("31 execute", 2, 3).fails("0 31 execute", 2, 5).fails("5 99 31 execute", 5, 8);
        t.run(": fill 24 0 do 31 loop ; fill").count(0, 24).fails("execute", 2, 0);
    }

    private static void recursion() {
        new Talk("recurse").run(": f dup 2 < if drop 1 else dup 1 - recurse * then ; 6 f").stack(720);
        new Talk("recurse means the new word").run(": f 9 ; : f dup if 1 - recurse then ; 3 f").stack(0);
    }
}
