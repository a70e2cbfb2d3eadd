/** Of run: its answer, and what a text and an error leave behind. */
public final class Promise03RunTest {
    public static void main(String[] args) {
        theAnswer();
        nothingIsTypedThen();
        afterAnError();
        whatWasDoneStays();
        definitionsGoOnInTheNextText();
        stacksOutlastTexts();
        Talk.end();
    }

    private static void theAnswer() {
        Talk t = new Talk("the answer of run");
        t.run("").run("   ").run("1").run(" 2  3 ").stack(1, 2, 3);
        t.fails("nope", 1, 0).fails("   nope", 1, 3).fails("1 2   nope 3", 1, 6);
        t.run(": bad 0 0 / ;").fails("1 bad", 4, 2).fails("' bad   execute", 4, 8);
        t.fails(": outer   bad   bad ; 5     outer", 4, 28);
    }

    private static void nothingIsTypedThen() {
        new Talk("typed again").run("1 2").run("").stack(1, 2).run("3").stack(1, 2, 3)
                .fails("1 nope 4", 1, 2).run("").stack();
    }

    private static void afterAnError() {
        Talk t = new Talk("after an error");
        t.run("1 2 >r").stack(1).count(1, 1);
        t.fails("3 4 nope 5 6 .", 1, 4).stack().count(1, 0).out();
        t.fails(": w 1 2 if nope", 1, 11).count(5, 0).count(3, 0);
        t.run("1 2 +").stack(3).fails("w", 1, 0);
        t.run(": deep 1 2 >r 0 0 do 96 @ loop ;");
        t.fails("deep", 5, 0).stack().count(1, 0).fails("exit", 6, 0).fails("i", 8, 0);
        t.run(": w 7 ; w").stack(7).count(3, 2);
    }

    private static void whatWasDoneStays() {
        Talk t = new Talk("what stays");
        t.fails("variable v : w 3 ; 5 v ! 6 . 9 , 1 block 4 swap ! update drop", 2, 57);
        t.count(3, 2).items(101, 1).cell(0, 5).cell(1, 9).out(6).count(4, 2).buffer(0, 11);
        t.cell(64, 4).fails("flush nope", 1, 6).disk(1, 0, 4).buffer(0, 10);
        t.run("w v").stack(3, 0);
    }

    private static void definitionsGoOnInTheNextText() {
        Talk t = new Talk("a definition over texts");
        t.run(": w 1 if 2").count(5, 1).count(3, 0).items(100, -1);
        t.run("").count(5, 1).run("else 3").run("then");
        t.run(";").count(5, 0).count(3, 1).items(100, 5).run("w").stack(2);
        t.run(": open if").fails("  ;", 6, 2).count(5, 0);
    }

    private static void stacksOutlastTexts() {
        new Talk("stacks over texts").run("1 2 3 >r >r").run("r> r>").stack(1, 2, 3).count(1, 0);
    }
}
