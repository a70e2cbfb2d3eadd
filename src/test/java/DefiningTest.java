/** The words 32 .. 36, and the room in the dictionary. */
public final class DefiningTest {
    public static void main(String[] args) {
        tick();
        variables();
        constants();
        immediateWords();
        outOfPlace();
        theDictionaryIsFull();
        Talk.end();
    }

    private static void tick() {
        Talk t = new Talk("'").run("' dup ' ; : a ; ' a").stack(12, 40, 100);
        t.fails("1   ' nope", 1, 4).fails("'", 6, 0).fails("' nope12nope", 6, 0);
    }

    private static void variables() {
        Talk t = new Talk("variable").run("5 1 ! 3 allot -2 allot variable a variable b a b");
        t.stack(1, 2).cell(1, 0).count(4, 3).count(3, 2);
        t.run("7 a ! a @").stack(1, 2, 7).cell(1, 7);
        Talk u = new Talk("no room for a variable").run("9 63 ! 63 allot variable x x").stack(63);
        u.cell(63, 0).count(4, 64).fails("variable y", 3, 0).count(3, 1).fails("y", 1, 0);
    }

    private static void constants() {
        Talk t = new Talk("constant").run("1 5 constant a a a").stack(1, 5, 5).count(4, 0);
        t.run("-7 constant a a").stack(1, 5, 5, -7).count(3, 2);
        t.run("drop drop drop drop").fails("constant b", 2, 0).count(3, 2);
    }

    private static void immediateWords() {
        Talk t = new Talk("immediate").fails("immediate", 6, 0);
        t.run(": im 5 . ; immediate : w im 1 im ;").out(5, 5).items(101, 1).run("w").stack(1);
        t.run("im").out(5, 5, 5);
        t.run("variable v immediate : x v ;").stack(1, 0).items(103, 0);
        t.run("9 constant c immediate : y c ;").stack(1, 0, 9).items(105, 0);
        Talk u = new Talk("the last one made").run(": a 1 ; : b 2 ; immediate : c a b ;");
        u.stack(2).items(102, 1).run(": b 3 ; : d b ;").items(104, 1).run("d").stack(2, 3);
        Talk v = new Talk("an error in an immediate word").run(": bad drop ; immediate");
        v.fails(": w 1 bad ;", 2, 6).count(5, 0).count(3, 1);
        Talk w = new Talk("immediate words and what is open");
        w.run(": im dup if drop 7 else 8 then ; immediate 1 : w if im 2 then ;");
        w.stack(7).items(101, 2);
    }

    private static void outOfPlace() {
        String[] words = {"' dup", "variable x", "constant x", ": x", "immediate"};
        for (String word : words) {
            Talk t = new Talk("compiling " + word).run(": a ; 5");
            t.fails(": w 1 " + word + " ;", 6, 6).count(3, 1).count(5, 0).stack();
        }
    }

    private static void theDictionaryIsFull() {
        Talk t = new Talk("the dictionary is full");
        for (int k = 0; k < 24; k++) {
            t.count(3, k).run(": w" + k + " " + k + " ;").items(100 + k, 1);
        }
        t.count(3, 24).run("w0 w23").stack(0, 23);
        t.fails(" variable x", 3, 1).count(4, 0).fails("  5 constant x", 3, 4);
        t.fails("   : x ;", 3, 3).count(5, 0).count(3, 24).items(124, -1).fails("x", 1, 0);
        t.fails("constant x", 2, 0).fails("variable", 6, 0).run("w23 immediate").stack(23);
    }
}
