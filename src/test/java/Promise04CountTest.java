public final class Promise04CountTest {
    public static void main(String[] args) {
        Talk t = new Talk("count");
        t.run("1 2 3 >r").count(0, 2).count(1, 1);
        t.run("9 . 8 .").count(2, 2).count(0, 2);
        t.run("variable a 3 constant b : c ; : c ;").count(3, 4);
        t.count(4, 1).run("5 allot 7 ,").count(4, 7).run("-3 allot").count(4, 4);
        t.count(5, 0).run(": d 1").count(5, 1).run(";").count(5, 0).count(3, 5);
        fuel();
        outputIsCountedOn();
        otherWhats(t);
        Talk.end();
    }

    private static void fuel() {
        Talk t = new Talk("fuel that is left");
        t.run("").count(6, 600).run(" 1 2 + ").count(6, 597).run("").count(6, 600);
        t.fails("1 nope 2 3", 1, 2).count(6, 598);
    }

    private static void outputIsCountedOn() {
        Talk t = new Talk("output beyond what is kept");
        t.run(": many 45 0 do i . loop ; many").count(2, 45);
        t.fails("1 . nope", 1, 4).count(2, 46);
    }

    private static void otherWhats(Talk t) {
        int[] others = {-1, 7, 8, 100, Integer.MIN_VALUE, Integer.MAX_VALUE};
        for (int what : others) {
            t.count(what, -1);
        }
    }
}
