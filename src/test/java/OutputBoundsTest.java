/** "OUTPUT is a row of numbers, the first 40 of which are kept." */
public final class OutputBoundsTest {
    public static void main(String[] args) {
        none();
        thirtyNineToFortyOne();
        farMore();
        errorsLeaveIt();
        Talk.end();
    }

    private static void none() {
        new Talk("nothing put out").count(2, 0).outAt(0, 0).outAt(39, 0).outAt(40, 0).outAt(-1, 0);
        new Talk("a 0 put out").run("0 .").count(2, 1).outAt(0, 0).fails(".", 2, 0).count(2, 1);
    }

    private static void thirtyNineToFortyOne() {
        Talk t = new Talk("one by one").run(": w 39 0 do i 1 + . loop ; w").count(2, 39);
        t.outAt(0, 1).outAt(38, 39).outAt(39, 0).outAt(40, 0);
        t.run("140 .").count(2, 40).outAt(38, 39).outAt(39, 140).outAt(40, 0);
        t.run("141 .").count(2, 41).outAt(0, 1).outAt(39, 140).outAt(40, 0).stack();
        t.run("142 . 143 .").count(2, 43).outAt(39, 140).outAt(40, 0).outAt(41, 0).outAt(42, 0);
    }

    private static void farMore() {
        Talk t = new Talk("far more").run(": w 145 0 do 5 . loop ;");
        for (int k = 1; k <= 30; k++) {
            t.run("w").count(2, 145 * k);
        }
        t.outAt(39, 5).outAt(40, 0).outAt(Integer.MAX_VALUE, 0).outAt(Integer.MIN_VALUE, 0).outAt(-1, 0);
    }

    private static void errorsLeaveIt() {
        Talk t = new Talk("errors").run(": w 40 0 do i . loop ; w").fails("7 . nope 8 .", 1, 4).count(2, 41);
        t.outAt(39, 39).outAt(40, 0).outAt(0, 0).outAt(1, 1);
    }
}
