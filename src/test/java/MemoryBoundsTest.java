/** "MEMORY has the addresses 0 .. 95, 0 at first; HERE is 0 at first and at most 64". */
public final class MemoryBoundsTest {
    private static final int MIN = Integer.MIN_VALUE;
    private static final int MAX = Integer.MAX_VALUE;

    public static void main(String[] args) {
        zeroAtFirst();
        theFirstAndTheLastAddress();
        noSuchAddress();
        theHighestHere();
        theLowestHere();
        hereIsAnIntThatMightWrap();
        noRoomForAVariable();
        theEdgesOfTheBuffers();
        Talk.end();
    }

    private static void zeroAtFirst() {
        Talk t = new Talk("a new memory").count(4, 0);
        for (int address = -1; address <= 96; address++) {
            t.cell(address, 0);
        }
        t.run("0 @ 95 @ here").stack(0, 0, 0);
    }

    private static void theFirstAndTheLastAddress() {
        int[] addresses = {0, 1, 63, 64, 79, 80, 94, 95};
        for (int address : addresses) {
            Talk t = new Talk("address " + address).run("7 " + address + " !").cell(address, 7);
            t.run("3 " + address + " +!").cell(address, 10).run(address + " @").stack(10);
            for (int other = 0; other < 96; other++) {
                t.cell(other, other == address ? 10 : 0);
            }
        }
    }

    private static void noSuchAddress() {
        String[] addresses = {"-1", "96", "97", "-96", "999999", "-999999", "65536 32768 *",
            "65536 32768 * 1 -"};
        Talk untouched = new Talk("nothing stored").run("5 0 ! 6 95 !");
        Talk t = new Talk("no such address").run("5 0 ! 6 95 !");
        for (String address : addresses) {
            int place = address.length() + 1;
            t.fails(address + " @", 5, place).fails("1 " + address + " !", 5, place + 2);
            t.fails("1 " + address + " +!", 5, place + 2).stack();
        }
        t.looksLike(untouched);
        Talk u = new Talk("in a call").run(": a @ ; : b ! ; : c +! ;").fails("96 a", 5, 3).fails("1 -1 b", 5, 5);
        u.fails("1 96 c", 5, 5).run("95 a 0 a").stack(0, 0);
        Talk v = new Talk("by cell").run("5 0 ! 6 95 !").cell(0, 5).cell(95, 6).cell(-1, 0).cell(96, 0);
        v.cell(MIN, 0).cell(MAX, 0).cell(-95, 0).cell(191, 0);
    }

    /** "HERE would be ... above 64" */
    private static void theHighestHere() {
        new Talk("64 at once").run("64 allot here").stack(64).count(4, 64);
        new Talk("65 at once").fails("65 allot", 3, 3).count(4, 0).stack();
        new Talk("63 and 1").run("63 allot 1 allot").count(4, 64).fails("1 allot", 3, 2).count(4, 64);
        new Talk("63 and 2").run("63 allot").fails("2 allot", 3, 2).count(4, 63);
        new Talk("none more at 64").run("64 allot 0 allot").count(4, 64);
        Talk t = new Talk(", at 63").run("63 allot 7 ,").cell(63, 7).cell(64, 0).count(4, 64).stack();
        t.fails("8 ,", 3, 2).cell(63, 7).cell(64, 0).count(4, 64).stack();
        Talk u = new Talk("64 by ,").run(": w 32 0 do i , loop ; w w").count(4, 64).cell(63, 31).cell(32, 0);
        u.fails("5 w", 3, 2).count(4, 64).cell(64, 0).cell(0, 0);
    }

    /** "HERE would be below 0" */
    private static void theLowestHere() {
        new Talk("-1 at 0").fails("-1 allot", 3, 3).count(4, 0).stack();
        new Talk("0 at 0").run("0 allot").count(4, 0);
        new Talk("back to 0").run("64 allot -64 allot here").stack(0).count(4, 0);
        new Talk("below 0").run("64 allot").fails("-65 allot", 3, 4).count(4, 64);
        new Talk("from 1").run("1 allot -1 allot").count(4, 0).fails("-1 allot", 3, 3).count(4, 0);
        new Talk("cells stay").run("7 , 8 , -2 allot here").stack(0).cell(0, 7).cell(1, 8).run("9 ,").cell(0, 9);
    }

    private static void hereIsAnIntThatMightWrap() {
        String lowest = "65536 32768 * allot";
        String highest = "65536 32768 * 1 - allot";
        new Talk("the lowest int").fails(lowest, 3, 14).count(4, 0);
        new Talk("the highest int").fails(highest, 3, 18).count(4, 0);
        new Talk("the lowest int at 64").run("64 allot").fails(lowest, 3, 14).count(4, 64);
        new Talk("the highest int at 64").run("64 allot").fails(highest, 3, 18).count(4, 64);
    }

    /** variable: "the address HERE, which grows by 1; that cell becomes 0" */
    private static void noRoomForAVariable() {
        Talk t = new Talk("at 63").run("9 63 ! 9 64 ! 63 allot variable v v").stack(63).count(4, 64);
        t.cell(63, 0).cell(64, 9).fails("variable w", 3, 0).count(3, 1).count(4, 64).cell(64, 9).stack();
        t.fails("w", 1, 0).run("-1 allot variable w w").stack(63).count(3, 2);
        new Talk("at 0").run("9 0 ! 9 1 ! variable v v").stack(0).cell(0, 0).cell(1, 9).count(4, 1);
        Talk u = new Talk("refused at 64").run("9 64 ! 64 allot").fails("variable v", 3, 0);
        u.looksLike(new Talk("not asked for").run("9 64 ! 64 allot").fails("nope", 1, 0));
    }

    /** "64 .. 79 and 80 .. 95 are the BUFFERS 0 and 1" */
    private static void theEdgesOfTheBuffers() {
        String fill = ": w 96 0 do 7 i ! loop ; w";
        Talk t = new Talk("buffer 0").run(fill).run("0 block drop");
        t.cell(63, 7).cell(64, 0).cell(79, 0).cell(80, 7).cell(95, 7);
        Talk u = new Talk("buffer 1").run(fill).run("0 block drop 1 block drop 3 0 ! 4 63 !");
        u.cell(0, 3).cell(63, 4).cell(64, 0).cell(79, 0).cell(80, 0).cell(95, 0);
        Talk v = new Talk("what is written").run("2 block drop 1 63 ! 2 64 ! 3 79 ! 4 80 ! update flush");
        v.disk(2, 0, 2).disk(2, 15, 3).disk(2, 1, 0).disk(2, 14, 0).disk(1, 15, 0).disk(3, 0, 0);
        v.run("3 block drop 5 79 ! 6 80 ! 7 95 ! update flush").disk(3, 0, 6).disk(3, 15, 7).disk(2, 15, 3);
    }
}
