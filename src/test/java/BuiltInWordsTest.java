/** The words 0 .. 27, one by one. */
public final class BuiltInWordsTest {
    public static void main(String[] args) {
        arithmetic();
        bits();
        comparisons();
        wrapping();
        stackWords();
        returnStackWords();
        memoryWords();
        tooLittle();
        tooMuch();
        justEnoughRoom();
        wrongNumbers();
        nothingElseChanges();
        Talk.end();
    }

    private static void gives(String text, int... numbers) {
        new Talk(text).run(text).stack(numbers);
    }

    private static void arithmetic() {
        gives("7 5 +", 12);
        gives("5 7 -", -2);
        gives("7 -5 *", -35);
        gives("7 2 /", 3);
        gives("-7 2 /", -3);
        gives("7 1 / 7 1 mod 7 -1 /", 7, 0, -7);
        gives("7 -2 /", -3);
        gives("7 2 mod", 1);
        gives("-7 2 mod", -1);
        gives("7 -2 mod", 1);
        gives("5 negate -3 negate 0 negate", -5, 3, 0);
    }

    private static void bits() {
        gives("12 10 and", 8);
        gives("12 10 or", 14);
        gives("12 10 xor", 6);
        gives("-1 5 and -2 1 or -1 5 xor", 5, -1, -6);
    }

    private static void comparisons() {
        gives("3 3 = 3 4 =", -1, 0);
        gives("3 4 < 4 3 < 3 3 < -5 2 <", -1, 0, 0, -1);
        gives("0 0= 1 0= -1 0=", -1, 0, 0);
    }

    private static void wrapping() {
        String lowest = "65536 32768 * ";
        gives(lowest, Integer.MIN_VALUE);
        gives(lowest + "1 -", Integer.MAX_VALUE);
        gives(lowest + "negate", Integer.MIN_VALUE);
        gives(lowest + "-1 /", Integer.MIN_VALUE);
        gives(lowest + "-1 mod", 0);
        gives(lowest + "1 - 1 +", Integer.MIN_VALUE);
        gives(lowest + "1 <", -1);
        gives("999999 999999 *", 999999 * 999999);
        new Talk("+! wraps").run(lowest + "1 - 0 ! 1 0 +!").cell(0, Integer.MIN_VALUE);
    }

    private static void stackWords() {
        gives("1 2 dup", 1, 2, 2);
        gives("1 2 drop", 1);
        gives("1 2 3 swap", 1, 3, 2);
        gives("1 2 3 over", 1, 2, 3, 2);
        gives("1 2 3 4 rot", 1, 3, 4, 2);
        gives("depth depth depth", 0, 1, 2);
        new Talk(".").run("1 2 . 3 .").stack(1).out(2, 3);
    }

    private static void returnStackWords() {
        new Talk(">r").run("1 2 >r").stack(1).count(1, 1);
        new Talk("r>").run("1 2 >r >r r>").stack(1).count(1, 1);
        new Talk("r@").run("5 >r r@ r@").stack(5, 5).count(1, 1);
        new Talk("over calls").run(": a 5 >r ; : b r> ; a").count(1, 1).run("b").stack(5);
        Talk t = new Talk("24 on the return stack").run(": fill 24 0 do i >r loop ; fill");
        t.count(1, 24).run("r@").stack(23).fails("1 >r", 3, 2).count(1, 0);
    }

    private static void memoryWords() {
        new Talk("! @").run("7 5 ! 5 @ 8 95 ! 95 @ 0 @").stack(7, 8, 0).cell(5, 7).cell(95, 8);
        new Talk("+!").run("7 5 ! 3 5 +! -1 6 +!").cell(5, 10).cell(6, -1);
        new Talk(",").run("here 5 , 6 , here").stack(0, 2).cell(0, 5).cell(1, 6);
        Talk t = new Talk("allot").run("9 1 ! 3 allot here -2 allot here").stack(3, 1).cell(1, 9);
        t.run("63 allot here").stack(3, 1, 64).run("-64 allot here").stack(3, 1, 64, 0);
        Talk u = new Talk("the edges of HERE").run("64 allot").fails("1 ,", 3, 2).count(4, 64);
        u.cell(64, 0).fails("1 allot", 3, 2).run("0 allot").fails("-65 allot", 3, 4).count(4, 64);
        u.run("-1 allot 5 ,").count(4, 64).cell(63, 5).run("-64 allot").fails("-1 allot", 3, 3);
        u.fails("65 allot", 3, 3).fails("65536 32768 * allot", 3, 14).count(4, 0);
        u.run("1 allot").fails("65536 32768 * 1 - allot", 3, 18).count(4, 1);
    }

    private static void tooLittle() {
        String[] two = {"+", "-", "*", "/", "mod", "and", "or", "xor", "=", "<", "swap", "over",
            "!", "+!"};
        String[] one = {"0=", "negate", "dup", "drop", ".", "@", ",", "allot", ">r", "execute",
            "block"};
        Talk t = new Talk("too little");
        for (String word : two) {
            t.fails(word, 2, 0).fails("1 " + word, 2, 2).fails("0 " + word, 2, 2);
        }
        for (String word : one) {
            t.fails(word, 2, 0);
        }
        t.fails("1 2 rot", 2, 4).fails("1 rot", 2, 2).fails("rot", 2, 0);
        t.fails("1 r>", 2, 2).fails("1 r@", 2, 2).fails("constant x", 2, 0).count(3, 0);
        t.count(4, 0).out();
    }

    private static void tooMuch() {
        String full = ": full 24 0 do i loop ; full ";
        String[] words = {"dup", "over", "depth", "here", "' dup", "5", "r@"};
        for (String word : words) {
            Talk t = new Talk("no room for " + word).run("7 >r " + full).count(0, 24);
            t.fails(" " + word, 3, 1).stack().count(1, 0);
        }
        new Talk("no room for r>").run("7 >r " + full).fails("r>", 3, 0);
        new Talk("no room for i").run(": full 24 0 do i loop 1 0 do i loop ;").fails("full", 3, 0);
    }

    private static void justEnoughRoom() {
        String full = "7 >r : full 24 0 do i loop ; full";
        String[][] leaving = {
            {"!", "+!", "drop 13 execute"},
            {"+", "-", "*", "/", "mod", "and", "or", "xor", "=", "<", "drop", ".", ",", "allot", ">r",
                "constant c", ": w if then ; w"},
            {"0=", "negate", "swap", "rot", "@", "update", "flush", "drop 3 block", ": w exit ; w",
                "variable v"},
        };
        for (int k = 0; k < leaving.length; k++) {
            for (String text : leaving[k]) {
                new Talk("24 numbers and " + text).run(full).count(0, 24).run(text).count(0, 22 + k);
            }
        }
        String[] withOneLess = {"dup", "over", "depth", "here", "r>", "r@", "5", "' dup"};
        for (String text : withOneLess) {
            new Talk("23 numbers and " + text).run(full).run("drop").run(text).count(0, 24);
        }
        new Talk("i as the last").run(": w 12 0 do 1 0 do j i loop loop ; w").count(0, 24);
        new Talk("j as the last").run(": w 12 0 do 1 0 do i j loop loop ; w").count(0, 24);
    }

    private static void wrongNumbers() {
        Talk t = new Talk("wrong numbers");
        t.fails("1 0 /", 4, 4).fails("1 0 mod", 4, 4).fails("0 0 /", 4, 4);
        String[] addresses = {"96", "-1", "999999", "65536 32768 *"};
        for (String address : addresses) {
            int place = address.length() + 1;
            t.fails(address + " @", 5, place);
            t.fails("1 " + address + " !", 5, place + 2);
            t.fails("1 " + address + " +!", 5, place + 2);
        }
        t.fails("4 block", 5, 2).fails("-1 block", 5, 3).buffer(0, -1);
    }

    /** Beside the stack, a word changes only what the document says of it. */
    private static void nothingElseChanges() {
        String[][] rows = {
            {"7 5 +", "12"}, {"7 5 -", "2"}, {"7 5 *", "35"}, {"7 5 /", "1"}, {"7 5 mod", "2"},
            {"7 5 and", "5"}, {"7 5 or", "7"}, {"7 5 xor", "2"}, {"7 5 =", "0"}, {"5 7 <", "-1"},
            {"7 0=", "0"}, {"7 negate", "-7"}, {"7 dup", "7 7"}, {"7 drop", ""}, {"7 5 swap", "5 7"},
            {"7 5 over", "7 5 7"}, {"7 5 3 rot", "5 3 7"}, {"7 depth", "7 1"}, {"5 @", "0"},
            {"here", "0"}, {"7 >r r>", "7"}, {"7 >r r@", "7 7 >r"}, {"' dup", "12"}, {"38 execute", ""},
            {"7 5 !", "7 5 +!"}, {"7 ,", "7 0 ! 1 allot"}, {"0 allot", ""}, {"update flush", ""},
            {"variable v", "0 , 0 constant v"}, {"7 .", "7 ' . execute"},
        };
        for (String[] row : rows) {
            new Talk(row[0]).run(row[0]).looksLike(new Talk(row[1]).run(row[1]));
        }
        Talk t = new Talk("i, j and exit").run(": w 3 2 do 5 4 do i j exit loop loop ; w");
        t.looksLike(new Talk("numbers").run(": w 3 2 do 5 4 do i j exit loop loop ; 4 2"));
        new Talk("output alone").run("7 .").out(7).count(3, 0).count(4, 0).cell(0, 0).cell(7, 0).stack();
    }
}
