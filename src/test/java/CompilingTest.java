/** Branches and loops: what they do, what fits where, and how much may be open. */
public final class CompilingTest {
    public static void main(String[] args) {
        branches();
        beginLoops();
        countedLoops();
        takesTooLittle();
        whatFits();
        notCompiling();
        openOnes();
        sixtyItems();
        Talk.end();
    }

    private static void branches() {
        new Talk("if").run(": w if 1 then 2 ; 0 w 5 w -1 w").stack(2, 1, 2, 1, 2);
        Talk u = new Talk("else").run(": w if 1 else 2 then 3 ; 0 w 5 w").stack(2, 3, 1, 3);
        u.run("drop drop drop drop : v if if 1 else 2 then else if 3 else 4 then then ;");
        u.run("1 1 v 0 1 v 1 0 v 0 0 v").stack(1, 2, 3, 4);
    }

    private static void beginLoops() {
        new Talk("until").run(": w begin 1 - dup dup . 0= until ; 3 w").stack(0).out(2, 1, 0);
        new Talk("until takes any").run(": w begin dup . until ; 0 -3 7 w").stack(0, -3).out(7);
        new Talk("while").run(": w begin dup while dup . 1 - repeat 9 ; 3 w").stack(0, 9).out(3, 2, 1);
        new Talk("while at once").run(": w begin while 5 . repeat 9 ; 0 w").stack(9).out();
        new Talk("again").run(": w begin 1 - dup 0= if exit then dup . again ; 3 w").stack(0).out(2, 1);
        new Talk("begin in begin")
                .run(": w begin dup while dup begin dup . 1 - dup 0= until drop 1 - repeat ; 2 w")
                .stack(0).out(2, 1, 1);
    }

    private static void countedLoops() {
        new Talk("do").run(": w do i . loop ; 3 0 w").stack().out(0, 1, 2);
        new Talk("once").run(": w do i . loop ; -4 -5 w").out(-5);
        new Talk("limit and count alike").run(": w do i . loop ;").fails("3 3 w", 7, 4);
        new Talk("j").run(": w 2 0 do 7 5 do j . i . loop loop ; w").out(0, 5, 0, 6, 1, 5, 1, 6);
        new Talk("i behind a loop in it").run(": w 2 0 do 1 0 do loop i . loop ; w").out(0, 1);
        Talk t = new Talk("loops of this call only").run(": a i ; : b 1 0 do a loop ; : c j ;");
        t.fails("b", 8, 0).run(": d 1 0 do j loop ;").fails("d", 8, 0);
        t.run(": e 1 0 do 1 0 do c loop loop ;").fails("e", 8, 0);
        t.run(": f 1 0 do loop i ;").fails("f", 8, 0).fails("1 j", 8, 2);
        new Talk("exit leaves loops").run(": a 5 0 do 5 0 do exit loop loop ; : b 2 0 do a i . loop ; b")
                .out(0, 1).fails("i", 8, 0);
        new Talk("i by its number").run(": w 3 2 do 28 execute loop ; w").stack(2);
        new Talk("four loops").run(": w 2 1 do 3 2 do 4 3 do 5 4 do i . j . loop loop loop loop ; w").out(4, 3);
        new Talk("five loops").run(": w 1 0 do 1 0 do 1 0 do 1 0 do 1 0 do loop loop loop loop loop ;")
                .fails("w", 3, 0);
        new Talk("four loops each").run(": a 1 0 do 1 0 do 1 0 do 1 . loop loop loop ;")
                .run(": b 1 0 do 1 0 do a a loop loop ; b").out(1, 1);
        new Talk("the count wraps").run(": w do i . loop ; 65536 32768 * dup 1 - w")
                .out(Integer.MAX_VALUE);
    }

    private static void takesTooLittle() {
        Talk t = new Talk("too little for a jump");
        t.run(": a if then ;").fails("a", 2, 0).run(": b begin until ;").fails("b", 2, 0);
        t.run(": c begin while repeat ;").fails("c", 2, 0).run(": d do loop ;").fails("1 d", 2, 2);
        t.fails("d", 2, 0).run(": e if else then ;").fails("e", 2, 0);
    }

    private static void misfit(String open, String word) {
        String text = ": w " + open;
        new Talk(text + word).fails(text + word, 6, text.length()).count(5, 0).count(3, 0);
    }

    private static void whatFits() {
        String[][] misfits = {
            {"", "then else until again while repeat loop"},
            {"if ", "; until again while repeat loop"},
            {"if else ", "; else until again while repeat loop"},
            {"begin ", "; then else repeat loop"},
            {"begin while ", "; then else until again while loop"},
            {"do ", "; then else until again while repeat"},
            {"if begin ", "then else ;"},
            {"begin if ", "until again while repeat"},
            {"do if ", "loop"},
            {"begin begin again ", "then ; loop repeat"},
            {"if then ", "then else"},
            {"begin while repeat ", "until again repeat while"},
        };
        for (String[] misfit : misfits) {
            for (String word : misfit[1].split(" ")) {
                misfit(misfit[0], word);
            }
        }
        new Talk("what fits").run(": w if begin while do if else then loop repeat else begin until then ;")
                .items(100, 9);
    }

    private static void notCompiling() {
        String[] words = "; if then else begin until again while repeat do loop recurse".split(" ");
        for (String word : words) {
            new Talk(word + " while not compiling").fails("1 1 " + word, 6, 4).stack();
        }
    }

    private static void openOnes() {
        String[] openers = {"if", "begin", "do"};
        for (String opener : openers) {
            String eight = ": w " + (opener + " ").repeat(8);
            new Talk("eight " + opener).run(eight).count(5, 1);
            new Talk("nine " + opener).fails(eight + opener, 3, eight.length()).count(5, 0);
        }
        new Talk("else opens no more").run(": w if if if if if if if if else")
                .run("then then then then then then then then ;").items(100, 9);
        new Talk("again after closing").run(": w if if if if if if if if then begin until")
                .run("then then then then then then then ;").items(100, 9);
        new Talk("nothing stays open").fails(": w if if if if if if if nope", 1, 25)
                .run(": w if if if if if if if if then then then then then then then then ;");
    }

    private static void sixtyItems() {
        String[] words = {"5", "dup", "if", "do", "recurse", "a"};
        for (String word : words) {
            Talk t = new Talk("sixty items and " + word).run(": a ; : w " + "1 ".repeat(50));
            t.run("1 ".repeat(9)).run("drop").fails(" " + word, 3, 1).count(5, 0).count(3, 1);
        }
        Talk t = new Talk("sixty items and no more").run(": w begin if " + "1 ".repeat(50));
        t.run("1 ".repeat(9)).run("then begin").fails("again", 3, 0);
        Talk u = new Talk("sixty items").run(": w if " + "1 ".repeat(50)).run("1 ".repeat(9));
        u.run("then ;").items(100, 60);
        u.run("0 w").stack();
        Talk v = new Talk("else as item 61").run(": w if " + "1 ".repeat(50)).run("1 ".repeat(9));
        v.fails("else", 3, 0).run(": v ;").items(100, 0);
    }
}
