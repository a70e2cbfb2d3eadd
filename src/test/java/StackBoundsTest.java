/** "There is a DATA STACK and a RETURN STACK (at most 24 each)"; "2: a stack has too little." */
public final class StackBoundsTest {
    /** A word, the fewest numbers that it can be done with, and what it makes of them. */
    private static final String[][] TAKING = {
        {"+", "7 5", "12"}, {"-", "7 5", "2"}, {"*", "7 5", "35"}, {"/", "7 5", "1"},
        {"mod", "7 5", "2"}, {"and", "7 5", "5"}, {"or", "7 5", "7"}, {"xor", "7 5", "2"},
        {"=", "7 5", "0"}, {"<", "5 7", "-1"}, {"0=", "7", "0"}, {"negate", "7", "-7"},
        {"dup", "7", "7 7"}, {"drop", "7", ""}, {"swap", "7 5", "5 7"}, {"over", "7 5", "7 5 7"},
        {"rot", "7 5 3", "5 3 7"}, {".", "7", ""}, {"@", "7", "0"}, {"!", "7 5", ""},
        {"+!", "7 5", ""}, {",", "7", ""}, {"allot", "7", ""}, {">r", "7", ""},
        {"execute", "38", ""}, {"block", "3", "64"},
    };
    /** Words that put on more than they take, and how many they take. */
    private static final String[][] GROWING = {
        {"dup", "1"}, {"over", "2"}, {"depth", "0"}, {"here", "0"}, {"r>", "0"}, {"r@", "0"},
        {"5", "0"}, {"-999999", "0"},
    };

    public static void main(String[] args) {
        justEnough();
        oneTooFew();
        aFullDataStack();
        theLastPlace();
        numbersAsRead();
        words32To34();
        loopCounts();
        theReturnStack();
        anEmptyReturnStack();
        jumps();
        Talk.end();
    }

    private static int[] numbers(String text) {
        if (text.isEmpty()) {
            return new int[0];
        }
        String[] tokens = text.split(" ");
        int[] numbers = new int[tokens.length];
        for (int k = 0; k < tokens.length; k++) {
            numbers[k] = Integer.parseInt(tokens[k]);
        }
        return numbers;
    }

    /** A talk with so many numbers on the data stack, and one on the return stack. */
    private static Talk filled(String title, int size) {
        return new Talk(title + " on " + size).run("9 >r").run("8 ".repeat(size)).count(0, size);
    }

    private static void justEnough() {
        for (String[] row : TAKING) {
            new Talk(row[0] + " as read").run(row[1] + " " + row[0]).stack(numbers(row[2]));
            Talk t = new Talk(row[0] + " in a call").run(": w " + row[0] + " ;").run(row[1] + " w");
            t.stack(numbers(row[2]));
        }
    }

    private static void oneTooFew() {
        for (String[] row : TAKING) {
            String fewer = row[1].contains(" ") ? row[1].substring(row[1].indexOf(' ') + 1) + " " : "";
            Talk t = new Talk("too few for " + row[0]).fails(fewer + row[0], 2, fewer.length()).stack();
            t.fails(row[0], 2, 0).run(": w " + row[0] + " ;").fails(fewer + "w", 2, fewer.length());
            t.stack().count(4, 0).out().count(1, 0).buffer(0, -1).cell(5, 0).cell(7, 0);
        }
    }

    /** Words that put on no more than they take are done on 24 numbers. */
    private static void aFullDataStack() {
        for (String[] row : TAKING) {
            int takes = numbers(row[1]).length;
            int[] put = numbers(row[2]);
            if (put.length <= takes) {
                Talk t = filled(row[0], 24 - takes).run(row[1]).count(0, 24).run(row[0]);
                t.count(0, 24 - takes + put.length);
                for (int k = 0; k < put.length; k++) {
                    t.stackAt(k, put[put.length - 1 - k]);
                }
            }
        }
        String[] others = {"update", "flush", "variable v", ": w exit ; w", ": w ; w"};
        for (String text : others) {
            filled(text, 24).run(text).count(0, 24).stackAt(23, 8).stackAt(0, 8);
        }
    }

    /** Words that put on more than they take find room on 23 numbers, and none on 24. */
    private static void theLastPlace() {
        for (String[] row : GROWING) {
            String word = row[0];
            filled(word, 23).run(word).count(0, 24).stackAt(23, 8);
            filled(word, 24).fails(" " + word, 3, 1).stack().count(1, 0).stackAt(0, 0);
            filled(word + " in a call", 23).run(": w " + word + " ; w").count(0, 24);
            filled(word + " in a call", 24).run(": w " + word + " ;").fails(" w", 3, 1).stack();
        }
        filled("dup by its number", 22).run("12 execute").count(0, 23);
        filled("depth by its number", 23).run("17 execute").count(0, 24).stackAt(0, 23);
        filled("execute has no room for its number", 24).fails("17 execute", 3, 0);
    }

    private static void numbersAsRead() {
        new Talk("24 numbers").run("1 ".repeat(24)).count(0, 24).stackAt(23, 1).stackAt(24, 0);
        new Talk("25 numbers").fails("1 ".repeat(25), 3, 48).stack();
        new Talk("over two texts").run("1 ".repeat(24)).fails("  1", 3, 2).stack().run("1").stack(1);
    }

    private static void words32To34() {
        filled("'", 23).run("' dup").count(0, 24).stackAt(0, 12);
        filled("'", 24).fails(" ' dup", 3, 1).stack();
        filled("constant", 24).run("constant c").count(0, 23).run("c").count(0, 24).stackAt(0, 8);
        filled("a constant", 24).run("constant c 7").fails("c", 3, 0).stack();
        filled("a variable", 24).run("variable v").fails("v", 3, 0).stack().count(3, 1).count(4, 1);
        new Talk("one number for constant").run("7 constant c").stack().run("c").stack(7);
        new Talk("none for constant").fails("constant c", 2, 0).count(3, 0).fails("c", 1, 0);
    }

    private static void loopCounts() {
        String[] words = {"i", "j"};
        for (String word : words) {
            // Both do take their numbers before four others come.
            String text = ": w do do 8 8 8 8 " + word + " loop loop ;";
            filled(word, 19).run(text).run("1 0 1 0 w").count(0, 24);
            filled(word, 20).run(text).fails("1 0 1 0 w", 3, 8).stack();
        }
    }

    private static void theReturnStack() {
        Talk t = new Talk("24 on the return stack");
        for (int k = 1; k <= 24; k++) {
            t.run(k + " >r").count(1, k).count(0, 0);
        }
        t.run("r@").stack(24).count(1, 24).run("r> r>").stack(24, 24, 23).count(1, 22);
        t.run(">r >r").count(1, 24).fails("5 >r", 3, 2).count(1, 0).stack().fails("r>", 2, 0);
        Talk u = new Talk("in a call").run(": w 24 0 do i >r loop ; : v 9 >r ; w").count(1, 24);
        u.fails("1 v", 3, 2).count(1, 0).stack().run("w").count(1, 24).fails("9 25 execute", 3, 5);
        new Talk("both full").run(": w 24 0 do i >r loop 24 0 do i loop ; w").count(0, 24).count(1, 24)
                .fails(">r", 3, 0);
        new Talk("back on a full one").run(": w 24 0 do i >r loop 24 0 do r> loop ; w").count(0, 24)
                .count(1, 0).stackAt(0, 0).stackAt(23, 23);
    }

    private static void anEmptyReturnStack() {
        String[] words = {"r>", "r@"};
        for (String word : words) {
            new Talk(word + " on one").run("7 >r " + word).stack(7);
            new Talk(word + " on none").fails("7 " + word, 2, 2).stack();
            new Talk(word + " in a call").run(": w " + word + " ;").fails("7 w", 2, 2).run("7 >r w").stack(7);
        }
        new Talk("r> takes it away").run("7 >r r>").count(1, 0).fails("r>", 2, 0);
        new Talk("r@ leaves it").run("7 >r r@ r@").count(1, 1).stack(7, 7).run("r>").count(1, 0);
    }

    /** if, until and while take one number, do takes two. */
    private static void jumps() {
        String[] one = {"if then", "if else then", "begin until", "begin while exit repeat"};
        for (String text : one) {
            Talk t = new Talk(text).run(": w " + text + " ;").run("1 w").stack();
            t.fails("w", 2, 0).stack();
            filled(text, 23).run(": w " + text + " ;").run("1 w").count(0, 23);
        }
        Talk t = new Talk("do loop").run(": w do loop ;").run("1 0 w").stack();
        t.fails("0 w", 2, 2).fails("w", 2, 0);
        filled("do loop", 22).run(": w do loop ;").run("1 0 w").count(0, 22);
    }
}
