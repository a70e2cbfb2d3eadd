/** Which error counts where a word lacks several things. */
public final class ErrorOrderTest {
    public static void main(String[] args) {
        Talk t = new Talk("the order of errors");
        t.fails("0 /", 2, 2).fails("96 !", 2, 3).fails("-1 +!", 2, 3);
        t.fails("constant 12", 6, 0).fails("constant", 6, 0).fails("' 12", 6, 0);
        t.fails(": w ' nope", 6, 4).fails(": w constant nope", 6, 4);
        t.fails("execute", 2, 0).fails("allot", 2, 0);
        whereTheDataStackIsFull();
        whereItemsAreFull();
        whereTheDictionaryIsFull();
        whereEightAreOpen();
        whereFuelIsOut();
        Talk.end();
    }

    private static Talk full(String title) {
        return new Talk(title).run(": full 24 0 do i loop ; full");
    }

    private static void whereTheDataStackIsFull() {
        full("' with 6 before 3").fails("' 1", 6, 0);
        full("' with 1 before 3").fails("' nope", 1, 0);
        full("i with 8 before 3").fails("i", 8, 0);
        full("j with 8 before 3").fails("j", 8, 0);
        full("r> with 2 before 3").fails("r>", 2, 0);
        full("r@ with 2 before 3").fails("r@", 2, 0);
        full("an unknown name").fails("nope", 1, 0);
        full("if while not compiling").fails("if", 6, 0);
        new Talk("do with 2 before 3")
                .run(": w 1 0 do 1 0 do 1 0 do 1 0 do do loop loop loop loop loop ;").fails("w", 2, 0);
    }

    private static Talk sixty(String title, String opened) {
        String[] words = opened.isEmpty() ? new String[0] : opened.split(" ");
        int items = 0;
        for (String word : words) {
            items += word.equals("begin") ? 0 : 1;
        }
        Talk t = new Talk(title).run(": w " + opened);
        for (int k = items; k < 60; k++) {
            t.run("1");
        }
        return t;
    }

    private static void whereItemsAreFull() {
        sixty("else with 6 before 3", "").fails("else", 6, 0);
        sixty("until with 6 before 3", "if").fails("until", 6, 0);
        sixty("repeat with 6 before 3", "begin").fails("repeat", 6, 0);
        sixty("loop with 6 before 3", "begin while").fails("loop", 6, 0);
        sixty("' with 6 before 3", "").fails("' dup", 6, 0);
        sixty("immediate with 6 before 3", "").fails("immediate", 6, 0);
        sixty("an unknown name", "").fails("nope", 1, 0);
        sixty("until", "begin").fails("until", 3, 0);
        sixty("while", "begin").fails("while", 3, 0);
        sixty("repeat", "begin while").fails("repeat", 3, 0);
        sixty("loop", "do").fails("loop", 3, 0);
        sixty("then", "if").run("then ;").items(100, 60);
    }

    private static void whereTheDictionaryIsFull() {
        Talk t = new Talk("the dictionary is full");
        for (int k = 0; k < 24; k++) {
            t.run("variable v" + k);
        }
        t.fails("constant x", 2, 0).fails("constant 5", 6, 0).fails("variable", 6, 0);
        t.fails(": 5", 6, 0).fails(": x", 3, 0).fails("' x", 1, 0).count(4, 24);
    }

    private static void whereEightAreOpen() {
        String eight = ": w if if if if if if if if";
        new Talk("while with 6 before 3").run(eight).fails("while", 6, 0);
        new Talk("; with eight open").run(eight).fails(";", 6, 0);
        new Talk("a while beside its begin").run(": w if if if if if if begin while").fails("if", 3, 0);
    }

    private static void whereFuelIsOut() {
        Talk t = new Talk("fuel first").run(": w begin 1 - dup 0= until ;");
        t.fails("119 w drop 1 drop exit", 7, 18).fails("119 w drop 1 drop then", 7, 18);
        t.fails("119 w drop 1 drop i", 7, 18).fails("119 w drop 1 drop toolongname", 7, 18);
        Talk u = new Talk("fuel first, in a call").run(": w begin 1 - dup 0= until drop 96 @ ;");
        u.fails("118 w", 5, 4).count(6, 5).fails("119 w", 5, 4).count(6, 0).fails("120 w", 7, 4);
    }
}
