/** "at most 24 MADE ones, numbered from 100 in the order in which they were made". */
public final class DictionaryBoundsTest {
    private static final String[] MAKERS = {": NAME 7 ;", "variable NAME", "7 constant NAME"};

    public static void main(String[] args) {
        twentyFourOfEachKind();
        theTwentyFifth();
        theTwentyFifthChangesNothing();
        numbersFrom100();
        lostDefinitionsTakeNoRoom();
        theLatestWordOfAName();
        theLastWordMade();
        namesThatAreMissing();
        whileCompiling();
        whileNotCompiling();
        Talk.end();
    }

    private static String making(String maker, String name) {
        return maker.replace("NAME", name);
    }

    /** A talk with so many made words w0, w1 and so on. */
    private static Talk made(String title, int words) {
        Talk t = new Talk(title);
        for (int k = 0; k < words; k++) {
            t.run(": w" + k + " " + k + " ;");
        }
        return t.count(3, words);
    }

    private static void twentyFourOfEachKind() {
        for (String maker : MAKERS) {
            Talk t = new Talk("24 times " + maker);
            for (int k = 0; k < 24; k++) {
                t.items(100 + k, -1).run(making(maker, "w" + k)).count(3, k + 1).items(100 + k, 1);
            }
            t.items(124, -1).run("' w0 ' w23").stack(100, 123);
        }
    }

    private static void theTwentyFifth() {
        for (String maker : MAKERS) {
            Talk t = made("room for one: " + maker, 23).run(making(maker, "last")).count(3, 24);
            t.run("' last").stack(123).items(123, 1).count(5, 0);
            Talk u = made("no room: " + maker, 24);
            int place = maker.startsWith("7") ? 2 : 0;
            u.fails(making(maker, "more"), 3, place).count(3, 24).count(5, 0).stack().count(4, 0);
            u.items(124, -1).fails("more", 1, 0).fails("' more", 1, 0).run("w23 w0").stack(23, 0);
            u.fails(making(maker, "w0"), 3, place).run("w0").stack(0);
        }
    }

    private static void theTwentyFifthChangesNothing() {
        Talk untouched = made("not asked for", 24).run("9 0 !").fails("nope", 1, 0);
        Talk t = made("refused", 24).run("9 0 !").fails("variable x", 3, 0).fails("5 constant x", 3, 2);
        t.fails(": x ;", 3, 0).looksLike(untouched);
    }

    private static void numbersFrom100() {
        Talk t = new Talk("numbers").run("variable a 5 constant b : c ; ' a ' b ' c").stack(100, 101, 102);
        t.fails("99 execute", 5, 3).run("100 execute 101 execute 102 execute").stack(0, 5);
        t.fails("103 execute", 5, 4);
        new Talk("the built-in ones").run("' + ' recurse ' : ' ;").stack(0, 51, 35, 40);
    }

    private static void lostDefinitionsTakeNoRoom() {
        Talk t = made("lost", 23).fails(": x nope", 1, 4).fails(": x if ;", 6, 7).count(3, 23);
        t.run(": y 5 ;").count(3, 24).run("y ' y").stack(5, 123);
        Talk u = made("half made", 23).run(": x 1 2").count(3, 23).count(5, 1).items(123, -1);
        u.run("; x").stack(1, 2).items(123, 2);
    }

    /** "a name means its latest word" */
    private static void theLatestWordOfAName() {
        Talk t = new Talk("the latest").run(": a 1 ; : b a ; a b").stack(1, 1).run(": a 2 ; a b").stack(1, 1, 2, 1);
        t.run("' a 100 execute").stack(1, 1, 2, 1, 102, 1).items(100, 1);
        Talk u = new Talk("a built-in name").run(": dup 5 ; dup 7 12 execute").stack(5, 7, 7);
        u.run("variable drop drop").stack(5, 7, 7, 0);
        Talk v = new Talk("lost ones do not count").run(": a 1 ;").fails(": a 2 nope", 1, 6).run("a").stack(1);
        v.fails(": dup 3 nope", 1, 8).run("7 dup").stack(7, 7);
        new Talk("until its ;").run(": a 1 ; : a a 5 + ; a").stack(6);
        new Talk("24 of one name").run(": w 1 ; : w w 1 + ; : w w 1 + ; : w w 1 + ; w").stack(4);
    }

    /** "36 immediate: the word that was made last is immediate"; "no word was made yet (36)" */
    private static void theLastWordMade() {
        Talk t = new Talk("none made").fails("1 immediate 5 .", 6, 2).out().stack();
        t.fails(": x nope", 1, 4).fails("immediate", 6, 0).run(": x 7 ; immediate").count(3, 1);
        t.run(": y x ;").stack(7).items(101, 0);
        Talk u = new Talk("only the last").run(": a 1 ; : b 2 ; immediate : c a b ;").stack(2).items(102, 1);
        u.run("c").stack(2, 1);
        Talk v = new Talk("after an error").run(": a 1 ;").fails(": b nope", 1, 4).run("immediate : c a ;");
        v.stack(1).items(101, 0);
        Talk w = made("the 24th", 23).run(": im 5 ; immediate immediate").count(3, 24).run("im").stack(5);
        w.fails(": x im ;", 3, 0);
        Talk x = new Talk("constants and variables").run("variable v immediate 7 constant c immediate");
        x.run(": w v c ;").stack(0, 7).items(102, 0);
    }

    /** "a name that is missing, or not a name (32 .. 35)" */
    private static void namesThatAreMissing() {
        String[] words = {"'", "variable", "7 constant", ":"};
        String[] wrong = {"", " ", " 0", " -1", " 123456", " -123456", " abcdefghij", " 1 dup", " -12 x"};
        for (String word : words) {
            int place = word.startsWith("7") ? 2 : 0;
            Talk t = new Talk(word).run("9 0 !");
            for (String name : wrong) {
                t.fails(word + name, 6, place);
            }
            t.looksLike(new Talk("not asked for").run("9 0 !"));
        }
        new Talk("the last characters").fails(" ".repeat(119) + ":", 6, 119);
        new Talk("just a name there").run(" ".repeat(117) + ": x").count(5, 1);
    }

    /** "32 .. 36 while compiling" */
    private static void whileCompiling() {
        String[] texts = {"' dup", "variable x", "constant x", ": x", "immediate", "'", "variable", "constant", ":"};
        for (String text : texts) {
            Talk t = new Talk(text + " while compiling").run(": a 1 ; 5 : w 1").fails("2 " + text, 6, 2);
            t.count(5, 0).count(3, 1).count(4, 0).stack().fails("w", 1, 0).run("a").stack(1);
        }
        new Talk("not immediate then").run(": a 1 ;").fails(": w immediate", 6, 4).run(": b a ;").items(101, 1);
    }

    /** "40 .. 51 while not compiling" */
    private static void whileNotCompiling() {
        String[] words = "; if then else begin until again while repeat do loop recurse".split(" ");
        for (String word : words) {
            Talk t = new Talk(word + " while not compiling").run(": a 1 ;").fails("1 1 " + word + " 5 .", 6, 4);
            t.stack().out().count(5, 0).count(3, 1).items(100, 1);
            t.run(": b 2 ;").fails(word, 6, 0).fails(": c nope", 1, 4).fails(word, 6, 0);
        }
    }
}
