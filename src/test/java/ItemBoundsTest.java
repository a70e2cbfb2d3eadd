/** "A made word has at most 60 ITEMS"; "At most 8 of them are open at once"; what fits with what. */
public final class ItemBoundsTest {
    /** What is opened first, the word that is an item, and what then ends the definition. */
    private static final String[][] ITEMS = {
        {"", "5", ";"}, {"", "-999999", ";"}, {"", "dup", ";"}, {"", "exit", ";"}, {"", "a", ";"},
        {"", "recurse", ";"}, {"", "if", "then ;"}, {"if", "else", "then ;"}, {"begin", "until", ";"},
        {"begin", "again", ";"}, {"begin while", "repeat", ";"}, {"do", "loop", ";"},
    };

    public static void main(String[] args) {
        theSixtiethItem();
        theSixtyFirstItem();
        whatIsNoItem();
        sixtyItemsAreDone();
        noItemsAtAll();
        immediateWordsAreNoItems();
        eightOpen();
        nineOpen();
        closedOnesLeaveRoom();
        whatDoesNotFit();
        semicolonWithAnyOpen();
        definitionsOverTexts();
        Talk.end();
    }

    private static int itemsOf(String opened) {
        int items = 0;
        for (String word : opened.split(" ")) {
            items += word.isEmpty() || word.equals("begin") ? 0 : 1;
        }
        return items;
    }

    /** A talk that is making the word 101 and has put so many items into it. */
    private static Talk compiling(String title, String opened, int items) {
        Talk t = new Talk(title + " behind " + items).run(": a ;").run(": w " + opened);
        int left = items - itemsOf(opened);
        t.run("1 ".repeat(left / 2)).run("1 ".repeat(left - left / 2));
        return t.count(5, 1);
    }

    private static void theSixtiethItem() {
        for (String[] row : ITEMS) {
            compiling(row[1], row[0], 59).run(row[1]).run(row[2]).items(101, 60).count(3, 2).count(5, 0);
        }
        compiling("do", "", 58).run("do loop ;").items(101, 60);
        compiling("while", "begin", 58).run("while repeat ;").items(101, 60);
    }

    private static void theSixtyFirstItem() {
        for (String[] row : ITEMS) {
            Talk t = compiling(row[1], row[0], 60).fails(" " + row[1], 3, 1).count(5, 0).count(3, 1);
            t.items(101, -1).fails("w", 1, 0).run(": w 5 ;").items(101, 1);
        }
        compiling("do", "", 60).fails("do", 3, 0).count(3, 1);
        compiling("do, then its loop", "", 59).run("do").fails("loop ;", 3, 0).count(3, 1);
        compiling("while", "begin", 60).fails("while", 3, 0).count(3, 1);
        compiling("while, then its repeat", "begin", 59).run("while").fails("repeat ;", 3, 0).count(3, 1);
    }

    /** "then, begin, ; none" */
    private static void whatIsNoItem() {
        compiling(";", "", 60).run(";").items(101, 60);
        compiling("then", "if", 60).run("then ;").items(101, 60);
        compiling("then behind else", "if else", 60).run("then ;").items(101, 60);
        compiling("begin", "", 60).run("begin begin").count(5, 1).fails("again", 3, 0);
        String[] empty = {"if then", "if else then", "begin until", "begin again", "begin while repeat", "do loop"};
        int[] items = {1, 2, 1, 1, 2, 2};
        for (int k = 0; k < empty.length; k++) {
            new Talk(empty[k]).run(": w " + empty[k] + " ;").items(100, items[k]);
        }
    }

    private static void sixtyItemsAreDone() {
        Talk t = new Talk("sixty").run(": w " + "1 ".repeat(20)).run("drop ".repeat(20)).run("2 3 4 5 6 7 8 9");
        t.run(". . . . . . . . 7 6 5 4 ;").items(100, 60).run("w").stack(7, 6, 5, 4).count(2, 8).outAt(7, 2);
        t.count(6, 539);
    }

    private static void noItemsAtAll() {
        new Talk("none").run(": w ; w").items(100, 0).stack().count(6, 597);
    }

    private static void immediateWordsAreNoItems() {
        Talk t = new Talk("immediate behind 60").run(": im 7 . ; immediate : w " + "1 ".repeat(40));
        t.run("1 ".repeat(20)).run("im im ;").items(101, 60).out(7, 7);
    }

    private static void eightOpen() {
        String[] eight = {"if if if if if if if if", "begin begin begin begin begin begin begin begin",
            "do do do do do do do do", "if begin do if begin do if begin"};
        String[] closed = {"then ".repeat(8), "again ".repeat(8), "loop ".repeat(8),
            "until then loop until then loop until then"};
        int[] items = {8, 8, 16, 10};
        for (int k = 0; k < eight.length; k++) {
            new Talk(eight[k]).run(": w " + eight[k]).run(closed[k]).run(";").items(100, items[k]);
        }
        new Talk("else stands for its if").run(": w if if if if if if if if else then else then else")
                .run("then then then then then then ;").items(100, 11);
        new Talk("a while as the eighth").run(": w if if if if if if begin while repeat")
                .run("then then then then then then ;").items(100, 8);
    }

    private static void nineOpen() {
        String[] openers = {"if", "begin", "do"};
        for (String opener : openers) {
            for (String last : openers) {
                String text = ": w " + (opener + " ").repeat(8);
                Talk t = new Talk(text + last).fails(text + last, 3, text.length()).count(5, 0).count(3, 0);
                t.items(100, -1).fails("w", 1, 0).run(": w 1 ; w").stack(1);
            }
        }
        // The document leaves it open whether a while is open beside its begin; here it is.
        new Talk("a while as the ninth").run(": w if if if if if if if begin").fails(" while", 3, 1).count(5, 0);
    }

    private static void closedOnesLeaveRoom() {
        Talk t = new Talk("closed ones").run(": w if if if if if if if if then if then begin until do loop");
        t.run("then then then then then then then if if if if if if if if").fails("if", 3, 0);
        new Talk("a lost definition").fails(": w if if if if if if if if nope", 1, 28)
                .run(": w if if if if if if if if").run("then then then then then then then then ;").items(100, 8);
        new Talk("one behind the other").run(": w if then if then if then if then if then if then if then")
                .run("if then if then if then if then ;").items(100, 11);
    }

    /** "one of 40 .. 50 that does not fit with the one opened last" */
    private static void whatDoesNotFit() {
        String[][] rows = {
            {"", "then else until again while repeat loop"},
            {"if", "until again while repeat loop ;"},
            {"if else", "else until again while repeat loop ;"},
            {"begin", "then else repeat loop ;"},
            {"begin while", "then else until again while loop ;"},
            {"do", "then else until again while repeat ;"},
            {"begin if", "until again while repeat loop"},
            {"if begin", "then else repeat loop"},
            {"do begin", "loop then repeat"},
            {"begin while if", "repeat"},
            {"begin while begin", "repeat"},
            {"if then", "then else"},
            {"begin until", "until again while repeat"},
            {"begin while repeat", "repeat until"},
            {"do loop", "loop"},
        };
        for (String[] row : rows) {
            for (String word : row[1].split(" ")) {
                Talk t = new Talk(row[0] + " and " + word).run(": a ; : w " + row[0]).fails("1 " + word, 6, 2);
                t.count(5, 0).count(3, 1).items(101, -1);
            }
        }
    }

    /** "(; with any open)" */
    private static void semicolonWithAnyOpen() {
        String[] opened = {"if", "if else", "begin", "begin while", "do", "if if then", "do begin again"};
        for (String text : opened) {
            new Talk(text).run(": w " + text).fails(";", 6, 0).count(5, 0).count(3, 0).fails("w", 1, 0);
        }
        new Talk("none open any more").run(": w if else then begin while repeat do loop ;").items(100, 6);
    }

    /** "A text may end within a definition: the next one goes on with it" */
    private static void definitionsOverTexts() {
        Talk t = new Talk("a text for each token");
        String[] tokens = {": w", "3", "begin", "dup", "while", "dup", ".", "1", "-", "repeat", "drop"};
        for (String token : tokens) {
            t.run(token).count(5, 1).count(3, 0).stack();
        }
        t.run("; w").out(3, 2, 1).count(5, 0).items(100, 9);
        Talk u = new Talk("what is open stays open").run(": w if").fails("loop", 6, 0);
        u.run(": w if").run("else").run("then").run(";").items(100, 2);
    }
}
