/** What costs fuel, and where it ends. */
public final class FuelTest {
    public static void main(String[] args) {
        costs("", 0);
        costs("1 2 +", 3);
        costs("' dup drop", 2);
        costs("variable v", 1);
        costs("variable v v", 3);
        costs("5 constant c c", 4);
        costs(": w", 1);
        costs(": w ;", 2);
        costs(": w dup * ; immediate", 5);
        costs(": w 1 2 + ; w", 9);
        costs(": w if then begin until do loop ;", 8);
        costs("2 3 0 execute", 4);
        costs(": w ; 100 execute", 4);
        costs("1 2 0 31 31 execute", 6);
        costs(": w if 1 else 2 then ; 1 w", 7 + 2 + 3);
        costs(": w if 1 else 2 then ; 0 w", 7 + 2 + 2);
        costs(": w 3 0 do i drop loop ; w", 8 + 1 + 3 + 3 * 3);
        costs(": im 1 drop ; immediate : w im im ;", 5 + 4 + 2 * 2);
        costs(": w 1 exit 2 ; w", 6 + 2);
        theEnd();
        atATokenToo();
        Talk.end();
    }

    private static void costs(String text, int fuel) {
        new Talk(text).run(text).count(6, 600 - fuel);
    }

    private static void theEnd() {
        Talk t = new Talk("600 and no more").run(": w begin 1 - dup 0= until ;");
        t.run("119 w drop").count(6, 600 - 3 - 5 * 119);
        t.run("119 w drop 1 drop").count(6, 0).run("").count(6, 600);
        t.fails("120 w drop", 7, 4).count(6, 0).stack();
        t.run(": x 1 . recurse ; : y begin 7 0 ! 1 0 +! again ;").fails("y", 7, 0).count(6, 0);
        t.run("1 2").stack(1, 2).count(6, 598);
    }

    private static void atATokenToo() {
        Talk t = new Talk("no fuel for a token").run(": w begin 1 - dup 0= until ;");
        t.fails("119 w drop 1 drop 5", 7, 18).stack();
        t.fails("119 w drop 1 drop nope", 7, 18);
        t.fails("119 w drop 1 drop +", 7, 18);
        t.fails("119 w drop 1 drop : 5", 7, 18);
        t.fails("119 w drop 1 drop ;", 7, 18);
        t.run("119 w drop 1 : x").count(6, 0).count(5, 1).run(";").count(3, 2);
    }
}
