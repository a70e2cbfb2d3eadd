/** block, update and flush. */
public final class BlocksTest {
    public static void main(String[] args) {
        theBufferNotToldLast();
        onlyUpdatedOnesAreWritten();
        flushWritesBoth();
        nothingToUpdate();
        wrongBlocks();
        insideWords();
        Talk.end();
    }

    private static void theBufferNotToldLast() {
        Talk t = new Talk("which buffer").run("2 block").stack(64).buffer(0, 20).buffer(1, -1);
        t.run("2 block").stack(64, 64).buffer(1, -1);
        t.run("1 block").stack(64, 64, 80).buffer(0, 20).buffer(1, 10);
        t.run("2 block 3 block").stack(64, 64, 80, 64, 80).buffer(0, 20).buffer(1, 30);
        t.run("drop drop drop drop drop 0 block").stack(64).buffer(0, 0).buffer(1, 30);
        t.run("0 block 1 block").stack(64, 64, 80).buffer(1, 10);
        t.fails("nope", 1, 0).run("2 block").stack(64).buffer(0, 20).buffer(1, 10);
    }

    private static void onlyUpdatedOnesAreWritten() {
        Talk t = new Talk("not updated").run("0 block 5 swap ! 1 block drop 2 block drop");
        t.disk(0, 0, 0).cell(64, 0).buffer(0, 20).run("1 block drop 0 block @").stack(0);
        Talk u = new Talk("updated").run("0 block 5 swap ! update 1 block drop").disk(0, 0, 0);
        u.buffer(0, 1).run("2 block drop").disk(0, 0, 5).cell(64, 0).buffer(0, 20);
        u.run("1 block drop 0 block @").stack(5).buffer(0, 0).cell(64, 5);
        Talk v = new Talk("update is of the one told last").run("0 block drop 1 block drop 0 block drop update");
        v.buffer(0, 1).buffer(1, 10);
        Talk w = new Talk("stored after update").run("0 block update 7 swap 3 + ! flush").disk(0, 3, 7);
        w.run("8 67 ! flush").disk(0, 3, 7).cell(67, 8);
        Talk x = new Talk("all sixteen").run(": w 16 0 do i 1 + over i + ! loop ; 3 block w update flush");
        for (int i = 0; i < 16; i++) {
            x.disk(3, i, i + 1).disk(2, i, 0);
        }
        new Talk("updated, found again").run("0 block drop update 0 block drop").buffer(0, 1);
    }

    private static void flushWritesBoth() {
        Talk t = new Talk("flush").run("1 block 5 swap ! update 2 block 6 swap ! update flush");
        t.disk(1, 0, 5).disk(2, 0, 6).buffer(0, 10).buffer(1, 20).cell(64, 5).cell(80, 6);
        t.run("update").buffer(0, 10).buffer(1, 21);
        new Talk("flush of one").run("1 block 5 swap ! 2 block 6 swap ! update flush")
                .disk(1, 0, 0).disk(2, 0, 6).buffer(0, 10).buffer(1, 20);
    }

    private static void nothingToUpdate() {
        new Talk("nothing told").run("update flush").buffer(0, -1).run("0 block drop").buffer(0, 0);
        new Talk("no block in the buffers").run("5 64 ! 6 80 ! update flush").disk(0, 0, 0).cell(64, 5);
    }

    private static void wrongBlocks() {
        Talk t = new Talk("wrong blocks").run("1 block drop update").fails("4 block", 5, 2);
        t.fails("-1 block", 5, 3).fails("block", 2, 0).buffer(0, 11).buffer(1, -1).disk(1, 0, 0);
        t.run("2 block").stack(80).buffer(1, 20);
    }

    private static void insideWords() {
        Talk t = new Talk("in a word").run(": put block ! update ; 9 1 put 8 2 put 7 3 put flush");
        t.disk(1, 0, 9).disk(2, 0, 8).disk(3, 0, 7).buffer(0, 30).buffer(1, 20).items(100, 3);
    }
}
