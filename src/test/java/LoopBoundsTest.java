/** LOOPS, "at most 4" in each call; "8: there is no such loop (i, j)"; where a loop ends. */
public final class LoopBoundsTest {
    public static void main(String[] args) {
        fourLoops();
        fiveLoops();
        eachCallHasItsOwn();
        endedLoopsLeaveRoom();
        noSuchLoop();
        theInnermostAndTheOneAround();
        whereALoopEnds();
        countsWrap();
        branchesAtZero();
        Talk.end();
    }

    private static void fourLoops() {
        Talk t = new Talk("four").run(": w 2 0 do 2 0 do 2 0 do 2 0 do 1 . loop loop loop loop ; w");
        t.count(2, 16).stack();
    }

    private static void fiveLoops() {
        Talk t = new Talk("five").run(": w 1 0 do 1 0 do 1 0 do 1 0 do 4 . 1 0 do 5 . loop loop loop loop loop ;");
        t.fails("w", 3, 0).out(4).stack();
        Talk u = new Talk("five in two calls").run(": a 1 0 do 9 . loop ;");
        u.run(": w 1 0 do 1 0 do 1 0 do 1 0 do a loop loop loop loop ; w").out(9);
    }

    private static void eachCallHasItsOwn() {
        Talk t = new Talk("four in each call");
        t.run(": w dup if 1 - 1 0 do 1 0 do 1 0 do 1 0 do recurse loop loop loop loop then ;");
        t.run("15 w").stack(0);
        Talk u = new Talk("the outer count stays").run(": a 9 7 do i drop loop ; : w 3 0 do a i . loop ; w");
        u.out(0, 1, 2);
        Talk v = new Talk("exit leaves the loops of its call only").run(": a 9 0 do 9 0 do exit loop loop ;");
        v.run(": w 2 0 do 2 0 do a i . j . loop loop ; w").out(0, 0, 1, 0, 0, 1, 1, 1);
    }

    private static void endedLoopsLeaveRoom() {
        Talk t = new Talk("loops one after the other");
        t.run(": w 1 0 do loop 1 0 do loop 1 0 do loop 1 0 do loop 1 0 do loop 5 . ; w").out(5);
        Talk u = new Talk("a loop in three, often");
        u.run(": w 5 0 do 1 0 do 1 0 do 1 0 do i . loop loop loop loop ; w").out(0, 0, 0, 0, 0);
    }

    private static void noSuchLoop() {
        String[] words = {"i", "j"};
        for (String word : words) {
            Talk t = new Talk(word + " outside").fails(word, 8, 0).fails("1 " + word + " 5 .", 8, 2).out();
            t.stack().run(": a " + word + " ;").fails("a", 8, 0).run(": b 1 0 do 1 0 do a loop loop ;");
            t.fails("b", 8, 0).run(": c 1 0 do loop " + word + " ;").fails("c", 8, 0);
        }
        new Talk("i in one").run(": w 6 5 do i loop ; w").stack(5);
        new Talk("j in one").run(": w 6 5 do j loop ;").fails("w", 8, 0).stack();
        new Talk("j in two").run(": w 6 5 do 1 0 do j loop loop ; w").stack(5);
        new Talk("j behind the inner one").run(": w 6 5 do 1 0 do loop j loop ;").fails("w", 8, 0);
        new Talk("by their numbers").run(": w 6 5 do 8 7 do 28 execute 29 execute loop loop ; w").stack(7, 5)
                .fails("28 execute", 8, 3).fails("29 execute", 8, 3);
    }

    private static void theInnermostAndTheOneAround() {
        new Talk("in three").run(": w 2 1 do 3 2 do 4 3 do i . j . loop i . j . loop i . loop ; w")
                .out(3, 2, 2, 1, 1);
        new Talk("in four").run(": w 2 1 do 3 2 do 4 3 do 5 4 do i . j . loop loop loop loop ; w").out(4, 3);
    }

    /** "loop: its count grows by 1; if it is the limit, the loop ends" */
    private static void whereALoopEnds() {
        Talk t = new Talk("the limit").run(": w do i . loop ; 1 0 w").out(0).stack();
        t.run("2 0 w").out(0, 0, 1).run("0 -2 w").out(0, 0, 1, -2, -1);
        new Talk("limit and count alike").run(": w do 1 0 +! loop ;").fails("5 5 w", 7, 4).cell(0, 149);
        new Talk("a limit below").run(": w do 1 0 +! loop ;").fails("4 5 w", 7, 4).cell(0, 149);
        new Talk("as often as fuel lets it").run(": w 149 0 do 1 0 +! loop ;").run("w").cell(0, 149);
        new Talk("once more").run(": w 150 0 do 1 0 +! loop ;").fails("w", 7, 0).cell(0, 149);
    }

    private static void countsWrap() {
        Talk t = new Talk("from the highest int").run("65536 32768 * constant lo : w do i . loop ;");
        t.run("lo 1 + lo 1 - w").out(Integer.MAX_VALUE, Integer.MIN_VALUE);
        t.run("lo lo 1 - w").out(Integer.MAX_VALUE, Integer.MIN_VALUE, Integer.MAX_VALUE);
    }

    /** if, until and while go on "if that is 0", and with no other number. */
    private static void branchesAtZero() {
        String[] others = {"1", "-1", "999999", "65536 32768 *"};
        Talk t = new Talk("0").run(": a if 1 else 2 then . ; : b begin until 3 . ; : c begin while 4 . exit repeat 5 . ;");
        t.run("0 a").out(2).run("7 0 0 b").out(2, 3).stack().run("0 c").out(2, 3, 5);
        Talk u = new Talk("others").run(": a if 1 else 2 then . ; : b begin until 3 . ; : c begin while 4 . exit repeat 5 . ;");
        for (int k = 0; k < others.length; k++) {
            u.run(others[k] + " a").outAt(3 * k, 1).run(others[k] + " b").outAt(3 * k + 1, 3);
            u.run(others[k] + " c").outAt(3 * k + 2, 4).count(2, 3 * k + 3).stack();
        }
    }
}
