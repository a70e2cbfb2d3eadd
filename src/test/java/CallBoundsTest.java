/** "CALLS (at most 16, one in another), each with LOOPS (at most 4)"; i, j, exit and execute. */
public final class CallBoundsTest {
    public static void main(String[] args) {
        sixteenByRecurse();
        sixteenWords();
        sixteenByExecute();
        theSixteenthIsEmpty();
        whileCompiling();
        callsEnd();
        exitOutsideOfACall();
        numbersForExecute();
        theWordThatIsBeingMade();
        Talk.end();
    }

    private static void sixteenByRecurse() {
        Talk t = new Talk("recurse").run(": w dup . dup if 1 - recurse then ; 15 w").stack(0).count(2, 16);
        t.fails("16 w 5 .", 3, 3).stack().count(2, 32).outAt(31, 1);
        t.run("15 w").stack(0).count(2, 48).run(": v w ; 14 v").stack(0, 0).fails("15 v", 3, 3);
    }

    private static void sixteenWords() {
        Talk t = new Talk("a word in a word").run(": w1 1 . ;");
        for (int k = 2; k <= 17; k++) {
            t.run(": w" + k + " w" + (k - 1) + " ;");
        }
        t.run("w16").out(1).fails("w17", 3, 0).out(1).run("w16").out(1, 1);
    }

    private static void sixteenByExecute() {
        Talk t = new Talk("execute").run(": w dup if 1 - 100 execute then ; 15 w").stack(0);
        t.fails("16 w", 3, 3).stack().run("15 100 execute").stack(0).fails("16 100 execute", 3, 7);
    }

    /** A constant, a variable and a word without items are calls like any other. */
    private static void theSixteenthIsEmpty() {
        String[] makers = {"5 constant c", "variable c", ": c ;"};
        for (String maker : makers) {
            Talk t = new Talk(maker).run(maker).run(": w dup if 1 - recurse else c then ; 14 w");
            t.fails("15 w", 3, 3).stack();
        }
        Talk u = new Talk("a built-in word is none").run(": w dup if 1 - recurse else dup drop here drop then ; 15 w");
        u.stack(0);
    }

    private static void whileCompiling() {
        Talk t = new Talk("immediate").run(": w dup if 1 - recurse then ; immediate 15 : v w ;").stack(0);
        t.items(101, 0).run("drop 16").fails(": u w ;", 3, 4).count(5, 0).count(3, 2).stack();
    }

    /** "calls do not outlast a text"; after an error "there are no calls". */
    private static void callsEnd() {
        Talk t = new Talk("calls end").run(": w 2 0 do 2 0 do exit loop loop ; w");
        t.fails("exit", 6, 0).fails("i", 8, 0).fails("j", 8, 0);
        Talk u = new Talk("an error ends them").run(": w dup if 1 - recurse else 96 @ then ;");
        u.fails("15 w", 5, 3).fails("exit", 6, 0).fails("15 w", 5, 3).fails("1 w", 5, 2);
        Talk v = new Talk("no fuel ends them").run(": w 2 0 do begin again loop ; : v w ;").fails("v", 7, 0);
        v.fails("exit", 6, 0).fails("i", 8, 0).run(": u dup if 1 - recurse then ; 15 u").stack(0);
        Talk x = new Talk("one after the other").run(": a ; : b a a a a a a a a a ; b b b b b b").stack();
        x.run(": c 40 0 do a loop ; c").stack();
    }

    /** "exit outside of a call" */
    private static void exitOutsideOfACall() {
        Talk t = new Talk("exit").fails("5 exit 6 .", 6, 2).out().stack().fails("30 execute", 6, 3);
        t.run(": w 1 exit 2 ; w").stack(1).fails("exit", 6, 0);
        t.run(": v 1 30 execute 2 ; v").stack(1).fails("w exit", 6, 2);
        t.run(": im exit 5 ; immediate : u im 7 ; u").stack(7).items(103, 1);
        t.run(": outer w 3 ; outer").stack(7, 1, 3);
    }

    /** "5: no such ... word's number, or for execute a number 32 .. 36 or 40 .. 51" */
    private static void numbersForExecute() {
        Talk t = new Talk("no such number");
        int[] wrong = {-999999, -100, -2, -1, 32, 33, 34, 35, 36, 40, 41, 42, 43, 44, 45, 46, 47, 48, 49,
            50, 51, 52, 99, 100, 101, 123, 124, 999999};
        for (int number : wrong) {
            String text = number + " ";
            t.fails(text + "execute", 5, text.length());
        }
        t.count(3, 0).count(5, 0).count(4, 0);
        Talk u = new Talk("the ends of int").fails("65536 32768 * execute", 5, 14);
        u.fails("65536 32768 * 1 - execute", 5, 18);
        new Talk("0").run("2 3 0 execute").stack(5);
        new Talk("31").run("4 5 0 31 execute").stack(9).fails("31 execute", 2, 3).fails("32 31 execute", 5, 6);
        new Talk("37").run("2 37 execute").stack(64).buffer(0, 20).run("38 execute").buffer(0, 21)
                .run("39 execute").buffer(0, 20);
        Talk v = new Talk("made words").run(": a 1 ; : b 2 ; 100 execute 101 execute").stack(1, 2);
        v.fails("102 execute", 5, 4).run(": w execute ;").run("100 w").stack(1).fails("103 w", 5, 4);
    }

    /** A word has no number before its ; comes. */
    private static void theWordThatIsBeingMade() {
        Talk t = new Talk("half made").run(": im execute ; immediate").fails("101 : w 7 im ;", 5, 10);
        t.count(3, 1).run("100 : w 7 ; drop w").stack(7).run("101 im").stack(7, 7);
        new Talk("found only behind its ;").fails(": a 1 a ;", 1, 6).run(": a 1 ; : a a 1 + ; a").stack(2);
    }
}
