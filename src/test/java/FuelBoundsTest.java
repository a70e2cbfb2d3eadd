/** "a text has 600; each token that is read (but a name that 32 .. 35 take) and each item ... costs 1". */
public final class FuelBoundsTest {
    /** What leaves 2 of the 600, where burn is made as below. */
    private static final String BURN_598 = "119 burn drop ";

    public static void main(String[] args) {
        theLastTokens();
        noneForAToken();
        namesThatAreTakenCostNothing();
        otherNamesCost();
        theLastItem();
        eachKindOfItemCosts();
        jumpsThatAreNotTakenCostToo();
        eachTextHasItsOwn();
        whatAnErrorLeaves();
        loopsWithoutEnd();
        Talk.end();
    }

    private static Talk burner(String title) {
        return new Talk(title).run(": burn begin 1 - dup 0= until ;");
    }

    private static void theLastTokens() {
        burner("598").run(BURN_598).count(6, 2);
        burner("599").run(BURN_598 + "7").count(6, 1).stack(7);
        burner("600").run(BURN_598 + "7 .").count(6, 0).out(7);
        burner("600 and spaces").run(BURN_598 + "7 .   ").count(6, 0).out(7);
        burner("601").fails(BURN_598 + "7 . 8", 7, 18).count(6, 0).out(7).stack();
    }

    /** Nothing of a token is done without fuel, whatever the token is. */
    private static void noneForAToken() {
        String[] tokens = {"5", ".", "+", "nope", "abcdefghij", ": x", ":", "variable x", "' dup", "1234567",
            "immediate", "exit", "i", "if", ";", "burn", "execute", "update"};
        for (String token : tokens) {
            Talk t = burner("no fuel for " + token).fails(BURN_598 + "9 . " + token, 7, 18).count(6, 0);
            t.out(9).stack().count(3, 1).count(4, 0).count(5, 0).items(101, -1);
        }
    }

    private static void namesThatAreTakenCostNothing() {
        burner("'").run(BURN_598 + "7 ' dup").count(6, 0).stack(7, 12);
        burner("variable").run(BURN_598 + "7 variable v").count(6, 0).count(3, 2);
        burner("constant").run(BURN_598 + "7 constant c").count(6, 0).count(3, 2).stack();
        burner(":").run(BURN_598 + "7 : w").count(6, 0).count(5, 1).run(";").count(3, 2);
        new Talk("each of them").run("' dup").count(6, 599).run("variable v").count(6, 599)
                .run("constant c").count(6, 599).run(": w").count(6, 599).run(";").count(6, 599);
    }

    private static void otherNamesCost() {
        Talk t = new Talk("names").run("7").count(6, 599).run("dup drop").count(6, 598);
        t.run(": w 1 dup ;").count(6, 600 - 4).run("immediate").count(6, 599);
        t.run(": v if else then begin while repeat begin until begin again do loop recurse ;");
        t.count(6, 600 - 15);
        t.fails("nope", 1, 0).count(6, 599).fails("abcdefghij", 1, 0).count(6, 599);
        t.fails(": 12", 6, 0).count(6, 599).fails("1 ' nope", 1, 2).count(6, 598);
        t.fails("' 12 13 14", 6, 0).count(6, 599).fails("+", 2, 0).count(6, 599);
    }

    /** A round has the items 1, 0, +! and again: the number of rounds tells the items that were done. */
    private static void theLastItem() {
        String[] before = {"", "1 ", "1 2 ", "1 2 3 ", "1 2 3 4 "};
        int[] rounds = {150, 149, 149, 149, 149};
        for (int k = 0; k < before.length; k++) {
            Talk t = new Talk("items behind " + k + " tokens").run(": w begin 1 0 +! again ;");
            t.fails(before[k] + "w", 7, before[k].length()).cell(0, rounds[k]).count(6, 0).stack();
        }
        Talk u = new Talk("4 tokens, then 595 items").run(": w begin 1 0 +! again ;");
        u.fails("1 2 3 4 5 w", 7, 10).cell(0, 148);
        burner("an item as the 600th").run(": x 1 . ;").fails(BURN_598 + "x", 7, 14).out();
        burner("a word without items").run(": x ;").run(BURN_598 + "1 x").count(6, 0).stack(1);
        burner("a constant has an item").run("5 constant c").run(BURN_598 + "c").count(6, 0).stack(5);
        burner("a variable has an item").run("variable v").fails(BURN_598 + "1 v", 7, 16).stack();
    }

    private static void eachKindOfItemCosts() {
        costs(": w 5 ;", "w", 2);
        costs(": w here ;", "w", 2);
        costs(": a 5 ; : w a ;", "w", 3);
        costs(": w exit 1 2 3 ;", "w", 2);
        costs(": w 38 execute ;", "w", 3);
        costs(": a ; : w 100 execute ;", "w", 3);
        costs(": w if 1 else 2 then ;", "1 w", 2 + 3);
        costs(": w if 1 else 2 then ;", "0 w", 2 + 2);
        costs(": w begin until ;", "1 0 0 w", 4 + 3);
        costs(": w begin while repeat ;", "0 1 1 w", 4 + 5);
        costs(": w do loop ;", "4 0 w", 3 + 1 + 4);
        costs(": w begin if exit then again ;", "1 0 0 w", 4 + 2 + 2 + 2);
        costs(": im 1 drop ; immediate", ": w im ;", 3 + 2);
        costs(": w ;", "100 execute", 2);
        costs("", "5 5 0 31 execute", 5);
    }

    private static void costs(String before, String text, int fuel) {
        new Talk(before + " " + text).run(before).run(text).count(6, 600 - fuel);
    }

    private static void jumpsThatAreNotTakenCostToo() {
        costs(": w if then ;", "0 w", 3);
        costs(": w if then ;", "1 w", 3);
        costs(": w do loop ;", "1 0 w", 3 + 2);
    }

    private static void eachTextHasItsOwn() {
        Talk t = burner("one text after the other").run(BURN_598 + "1 drop").count(6, 0);
        t.run(BURN_598 + "1 drop").count(6, 0).run("").count(6, 600).run(BURN_598).count(6, 2);
        t.fails("120 burn", 7, 4).count(6, 0).run("1").count(6, 599).run(" ").count(6, 600);
        t.type("1 2").count(6, 600).run("").count(6, 598);
    }

    private static void whatAnErrorLeaves() {
        Talk t = new Talk("after errors").fails("1 2 nope 3 4", 1, 4).count(6, 597);
        t.fails("1 0 / 5", 4, 4).count(6, 597).run(": w 1 96 @ 2 ;").fails("w 5", 5, 0).count(6, 596);
        t.fails("if", 6, 0).count(6, 599).fails("i", 8, 0).count(6, 599);
    }

    private static void loopsWithoutEnd() {
        String[] texts = {"begin again", "begin 0 until", "begin 1 while repeat", "0 0 do loop",
            "begin 1 drop 0 0= drop again"};
        for (String text : texts) {
            Talk t = new Talk(text).run(": w " + text + " ;").fails("5 w 6", 7, 2).count(6, 0).stack();
            t.run("5").stack(5).count(6, 599);
        }
        new Talk("calls without end").run(": a ; : w begin a a a again ;").fails("w", 7, 0).count(6, 0);
    }
}
