public final class Promise01NewObjectTest {
    public static void main(String[] args) {
        nothingIsThere();
        nothingIsTyped();
        objectsAreApart();
        Talk.end();
    }

    private static void nothingIsThere() {
        Talk t = new Talk("a new object");
        for (int what = 0; what <= 5; what++) {
            t.count(what, 0);
        }
        t.due("stack(0)", t.smith.stack(0), 0).due("out(0)", t.smith.out(0), 0);
        for (int address = 0; address < 96; address++) {
            t.cell(address, 0);
        }
        for (int b = 0; b < 4; b++) {
            for (int i = 0; i < 16; i++) {
                t.disk(b, i, 0);
            }
        }
        t.items(100, -1).buffer(0, -1).buffer(1, -1);
    }

    private static void nothingIsTyped() {
        new Talk("an empty text").run("").count(0, 0).count(6, 600);
    }

    private static void objectsAreApart() {
        Talk one = new Talk("one object").run(": a 1 ; 5 0 ! 7 8 >r 2 block 3 over ! update . ");
        Talk other = new Talk("another object");
        one.count(3, 1).stack(7).count(1, 1).cell(0, 5).buffer(0, 21).out(64);
        other.count(3, 0).stack().count(1, 0).cell(0, 0).buffer(0, -1).out().fails("a", 1, 0);
        one.run("a").stack(7, 1);
    }
}
