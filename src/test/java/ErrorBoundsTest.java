/** The errors: their numbers, their order "7, 6, 1, 2, 4, 5, 8, 3", their places, and what is left. */
public final class ErrorBoundsTest {
    /** For each error from 1 to 8, a word of the set-up below that has it in a call. */
    private static final String[] IN_A_CALL = {"", "e2", "e3", "e4", "e5", "", "e7", "e8"};

    public static void main(String[] args) {
        placesOfTokens();
        placesOfWordsThatTakeNames();
        placesOfCalls();
        whatIsLeft();
        theRestIsNotRead();
        whatWasDoneStays();
        sevenComesFirst();
        sixBeforeOthers();
        oneBeforeThree();
        twoBeforeOthers();
        fiveAndEightBeforeThree();
        Talk.end();
    }

    private static void placesOfTokens() {
        Talk t = new Talk("places");
        int[] places = {0, 1, 9, 10, 99, 100, 118, 119};
        for (int place : places) {
            t.fails(" ".repeat(place) + "+", 2, place).fails(" ".repeat(place) + ";", 6, place);
        }
        t.fails("1  2   nope    ", 1, 7).run("").run("  ");
    }

    /** "(Errors of 32 .. 35 come at the word, not at its name.)" */
    private static void placesOfWordsThatTakeNames() {
        Talk t = new Talk("at the word").fails("1   '    nope", 1, 4).fails("1   '    12", 6, 4);
        t.fails("  variable   12", 6, 2).fails("  constant   x", 2, 2).fails("  :   12", 6, 2);
        t.fails("  1 constant   abcdefghij", 6, 4).fails("5 '  ", 6, 2);
        t.run("64 allot").fails("  variable   x", 3, 2).fails(" : w  '  nope", 6, 6);
        t.run("1 ".repeat(24)).fails("  '  dup", 3, 2);
    }

    /** An error in a call comes at the token that was read. */
    private static void placesOfCalls() {
        Talk t = new Talk("in calls").run(": a 0 0 / ; : b 1 2 a ; : im b ; immediate");
        t.fails("1 2   b", 4, 6).fails("1   100 execute", 4, 8).fails(": x 1   im 2 ;", 4, 8).count(5, 0);
    }

    /** A talk in which everything has something, and e2 to e8 have errors. */
    private static Talk setUp(String title) {
        Talk t = new Talk(title).run("variable v 5 v ! 6 . 2 block 7 swap ! update 9 ,");
        t.run(": e2 + ; : e3 3 , recurse ; : e4 7 . 1 0 / ; : e5 8 v ! 96 @ ; : e7 begin again ; : e8 i ;");
        return t.run("1 2 3 >r");
    }

    private static void whatIsLeft() {
        String[] asRead = {"nope", "+ + + +", "1 ".repeat(25), "1 0 /", "96 @", "exit", "e7", "i"};
        for (int error = 1; error <= 8; error++) {
            Talk t = setUp("error " + error);
            int answer = t.type(asRead[error - 1] + " 5 .").smith.run();
            t.due("the error of '" + asRead[error - 1] + "'", -answer / 1000, error).count(0, 0).count(1, 0);
            t.count(5, 0).stackAt(0, 0).fails("exit", 6, 0);
            t.looksLike(setUp("error 1").fails("nope", 1, 0));
        }
        for (int error = 1; error <= 8; error++) {
            String word = IN_A_CALL[error - 1];
            if (!word.isEmpty()) {
                Talk t = setUp(word).run("drop drop").fails(" " + word + " 5 .", error, 1).stack();
                t.count(1, 0).count(5, 0).fails("exit", 6, 0).fails("i", 8, 0).fails("r>", 2, 0);
            }
        }
    }

    private static void theRestIsNotRead() {
        Talk t = new Talk("the rest").fails("nope 5 . 6 variable v : w", 1, 0).stack().out().count(3, 0);
        t.count(4, 0).count(5, 0).run("").stack();
        t.fails(": w 1 nope 2 ;", 1, 6).count(5, 0).count(3, 0).stack().fails("w", 1, 0);
        t.fails("1 nope : x 7 ;", 1, 2).fails("x", 1, 0);
    }

    /** "what was made, put out and stored stays" */
    private static void whatWasDoneStays() {
        Talk t = new Talk("before the error").fails("variable v 5 v ! : w 7 ; immediate 6 . 9 , 3 allot nope", 1, 51);
        t.cell(0, 5).cell(1, 9).count(4, 5).count(3, 2).out(6).run(": x w ;").stack(7).items(102, 0);
        Talk u = new Talk("in the call").run(": w 5 0 ! 6 . 7 , 1 block drop update + ;").fails("w", 2, 0);
        u.cell(0, 7).out(6).count(4, 1).buffer(0, 11).fails("flush nope", 1, 6).buffer(0, 10);
        Talk v = new Talk("told last").run("0 block drop 1 block drop").fails("nope", 1, 0).run("2 block");
        v.stack(64).buffer(0, 20).buffer(1, 10);
    }

    /** A talk with a word that leaves 2 of the fuel as "119 burn drop"; then a text on what is there. */
    private static void noFuel(String before, String last) {
        Talk t = new Talk("7 before that of " + last).run(": burn begin 1 - dup 0= until ;").run(before);
        t.fails("119 burn drop 1 drop " + last, 7, 21).stack();
    }

    private static void sevenComesFirst() {
        noFuel("", "exit");
        noFuel("", "then");
        noFuel("", "immediate");
        noFuel("", ":");
        noFuel("", "nope");
        noFuel("", "' nope");
        noFuel("", "+");
        noFuel("1 0", "/");
        noFuel("96", "@");
        noFuel("99", "execute");
        noFuel("", "i");
        noFuel("64 allot 1", ",");
        noFuel(": w 24 0 do i >r loop ; w 1", ">r");
        Talk t = new Talk("7 in a call").run(": burn begin 1 - dup 0= until drop 96 @ ;");
        t.fails("119 burn", 5, 4).count(6, 0).fails("update 119 burn", 7, 11);
    }

    private static void sixBeforeOthers() {
        new Talk("6 before 1").fails(": w ' nope", 6, 4);
        new Talk("6 before 2").fails("constant 12", 6, 0).fails("constant", 6, 0).fails(": w constant x", 6, 4);
        Talk t = new Talk("6 before 3, dictionary").run("60 allot");
        for (int k = 0; k < 24; k++) {
            t.run(": w" + k + " ;");
        }
        t.fails("variable 12", 6, 0).fails(": 12", 6, 0).fails("5 constant", 6, 2).fails(":", 6, 0);
        t.fails(": x", 3, 0).fails("; ", 6, 0);
        new Talk("6 before 3, here").run("64 allot").fails("variable", 6, 0).fails("variable 12", 6, 0);
        new Talk("6 before 3, stack").run("1 ".repeat(24)).fails("' 12", 6, 0);
        new Talk("6 before 3, stack").run("1 ".repeat(24)).fails("'", 6, 0);
        String eight = ": w if if if if if if if if ";
        new Talk("6 before 3, open ones").run(eight).fails("while", 6, 0);
        String[] misfits = {"else", "until", "again", "while", "repeat", "loop"};
        for (String word : misfits) {
            new Talk("6 before 3, items").run(": w " + "1 ".repeat(58)).run("1 1").fails(word, 6, 0);
        }
        new Talk("6 before 3, items").run(": w if " + "1 ".repeat(56)).run("1 1 1").fails(";", 6, 0);
    }

    private static void oneBeforeThree() {
        new Talk("' nope").run("1 ".repeat(24)).fails("' nope", 1, 0);
        new Talk("nope").run("1 ".repeat(24)).fails("nope", 1, 0);
        new Talk("items").run(": w " + "1 ".repeat(58)).run("1 1").fails("nope", 1, 0);
        new Talk("items and ten").run(": w " + "1 ".repeat(58)).run("1 1").fails("abcdefghij", 1, 0);
    }

    private static void twoBeforeOthers() {
        new Talk("2 before 4").fails("0 /", 2, 2).fails("0 mod", 2, 2);
        new Talk("2 before 5").fails("96 !", 2, 3).fails("96 +!", 2, 3).fails("-1 !", 2, 3);
        new Talk("2 before 3, here").run("64 allot").fails(",", 2, 0).fails("allot", 2, 0);
        new Talk("2 before 3, return stack").run(": w 24 0 do i >r loop ; w").fails(">r", 2, 0);
        new Talk("2 before 3, data stack").run("1 ".repeat(24)).fails("r>", 2, 0);
        new Talk("2 before 3, data stack").run("1 ".repeat(24)).fails("r@", 2, 0);
        new Talk("2 before 3, loops").run(": w 1 0 do 1 0 do 1 0 do 1 0 do do loop loop loop loop loop ;")
                .fails("w", 2, 0);
        Talk t = new Talk("2 before 3, dictionary");
        for (int k = 0; k < 24; k++) {
            t.run(": w" + k + " ;");
        }
        t.fails("constant x", 2, 0).fails("1 constant x", 3, 2);
    }

    private static void fiveAndEightBeforeThree() {
        Talk t = new Talk("5 before 3, calls").run(": w dup if 1 - recurse else 99 execute then ;");
        t.fails("15 w", 5, 3).fails("16 w", 3, 3);
        new Talk("3 for a word that is there").run(": a ; : w dup if 1 - recurse else 100 execute then ;")
                .fails("15 w", 3, 3).run("14 w").stack(0);
        new Talk("8 before 3").run("1 ".repeat(24)).fails("i", 8, 0);
        new Talk("8 before 3").run("1 ".repeat(24)).fails("j", 8, 0);
        new Talk("4 on a full stack").run("1 ".repeat(23) + "0").fails("/", 4, 0);
        new Talk("5 on a full stack").run("1 ".repeat(22) + "96").fails("dup @", 5, 4);
    }
}
