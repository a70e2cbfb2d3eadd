/** block, update and flush at their bounds; what disk and buffer answer there. */
public final class BlockBoundsTest {
    public static void main(String[] args) {
        nothingAtFirst();
        theFirstAndTheLastBlock();
        noSuchBlock();
        theFirstOneIfNoneWasTold();
        theOneThatWasNotToldLast();
        aBufferHasItAlready();
        updateWithoutABuffer();
        updateOfTheOneToldLast();
        notUpdatedIsNotWritten();
        writtenWhenItsBufferIsTaken();
        flushWritesAllUpdatedOnes();
        flushOfNothing();
        allSixteenOfABlock();
        Talk.end();
    }

    /** "The disk's four blocks of 16 are 0 at first." */
    private static void nothingAtFirst() {
        Talk t = new Talk("a new disk").buffer(0, -1).buffer(1, -1);
        for (int b = -1; b <= 4; b++) {
            for (int i = -1; i <= 16; i++) {
                t.disk(b, i, 0);
            }
        }
    }

    private static void theFirstAndTheLastBlock() {
        for (int b = 0; b <= 3; b++) {
            Talk t = new Talk("block " + b).run(b + " block").stack(64).buffer(0, 10 * b).buffer(1, -1);
            t.run("update").buffer(0, 10 * b + 1).run("5 over ! 6 over 15 + ! flush").buffer(0, 10 * b);
            for (int other = 0; other <= 3; other++) {
                t.disk(other, 0, other == b ? 5 : 0).disk(other, 15, other == b ? 6 : 0);
            }
        }
    }

    /** "5: no such ... block" */
    private static void noSuchBlock() {
        String[] wrong = {"-1", "4", "5", "-4", "64", "999999", "-999999", "65536 32768 *", "65536 32768 * 1 -"};
        String before = "1 block 7 over ! update drop 2 block drop";
        Talk t = new Talk("no such block").run(before);
        for (String block : wrong) {
            t.fails(block + " block", 5, block.length() + 1);
        }
        t.looksLike(new Talk("not asked for").run(before));
        t.run("3 block").stack(64).buffer(0, 30).buffer(1, 20).disk(1, 0, 7);
        Talk u = new Talk("none told by a wrong one").fails("4 block", 5, 2).run("update").buffer(0, -1);
        u.run("0 block").stack(64).buffer(0, 0);
        new Talk("by disk and buffer").run("3 block 5 over ! 15 + 6 swap ! update flush").disk(3, 15, 6)
                .disk(3, 16, 0).disk(3, -1, 0).disk(4, 0, 0).disk(2, 16, 0).disk(-1, 0, 0).disk(-1, 63, 0)
                .disk(0, 48, 0).disk(0, 63, 0).disk(4, -16, 0).buffer(2, -1).buffer(-1, -1);
    }

    /** "(the first one, if none was told yet)" */
    private static void theFirstOneIfNoneWasTold() {
        new Talk("the first").run("3 block").stack(64).buffer(0, 30).buffer(1, -1);
        new Talk("after an error").fails("3 block nope", 1, 8).run("2 block").stack(80).buffer(0, 30);
    }

    private static void theOneThatWasNotToldLast() {
        Talk t = new Talk("in turn").run("0 block 1 block 2 block 3 block").stack(64, 80, 64, 80);
        t.buffer(0, 20).buffer(1, 30).run("drop drop drop drop 2 block 0 block").stack(64, 80);
        t.buffer(0, 20).buffer(1, 0);
        Talk u = new Talk("told again").run("0 block 1 block 0 block 2 block").stack(64, 80, 64, 80);
        u.buffer(0, 0).buffer(1, 20);
        Talk v = new Talk("told twice").run("0 block 1 block 1 block 2 block").stack(64, 80, 80, 64);
        v.buffer(0, 20).buffer(1, 10);
    }

    /** "if a buffer has it, its address" */
    private static void aBufferHasItAlready() {
        Talk t = new Talk("no new reading").run("0 block 7 over !").cell(64, 7).run("0 block @").stack(64, 7);
        t.buffer(1, -1).run("update 0 block").buffer(0, 1).stack(64, 7, 64).disk(0, 0, 0);
        t.run("1 block 0 block").stack(64, 7, 64, 80, 64).cell(64, 7).buffer(0, 1).buffer(1, 10);
    }

    /** "update: ... (nothing, if there is none)" */
    private static void updateWithoutABuffer() {
        Talk t = new Talk("update").run("7 64 ! 8 80 !").run("update").buffer(0, -1).buffer(1, -1);
        t.run("flush").disk(0, 0, 0).cell(64, 7).run("0 block drop").buffer(0, 0).cell(64, 0).cell(80, 8);
        new Talk("update alone").run("update").looksLike(new Talk("nothing"));
    }

    private static void updateOfTheOneToldLast() {
        Talk t = new Talk("the second").run("0 block drop 1 block drop update").buffer(0, 0).buffer(1, 11);
        t.run("0 block drop update").buffer(0, 1).buffer(1, 11).run("update").buffer(0, 1);
        new Talk("the first again").run("0 block drop 1 block drop 0 block drop update").buffer(0, 1).buffer(1, 10);
    }

    private static void notUpdatedIsNotWritten() {
        Talk t = new Talk("not updated").run("0 block 7 swap ! 1 block drop 2 block drop").disk(0, 0, 0);
        t.buffer(0, 20).cell(64, 0).run("1 block drop 0 block @").stack(0);
        new Talk("flush").run("0 block 7 swap ! flush").disk(0, 0, 0).cell(64, 7).buffer(0, 0);
    }

    /** "if it is UPDATED, its block is written to the disk; ... and is not updated" */
    private static void writtenWhenItsBufferIsTaken() {
        Talk t = new Talk("updated").run("0 block 7 swap ! update 1 block drop").disk(0, 0, 0).buffer(0, 1);
        t.run("2 block drop").disk(0, 0, 7).buffer(0, 20).cell(64, 0).disk(2, 0, 0);
        t.run("9 64 ! 1 block drop 3 block drop").disk(2, 0, 0).buffer(0, 30).run("1 block drop 0 block @").stack(7);
        Talk u = new Talk("the second").run("0 block drop 1 block 8 swap ! update 0 block drop 2 block drop");
        u.disk(1, 0, 8).buffer(0, 0).buffer(1, 20).cell(80, 0).cell(64, 0);
        Talk v = new Talk("stored behind update").run("0 block update 7 swap ! 1 block drop 2 block drop");
        v.disk(0, 0, 7);
    }

    /** "flush: updated ones are written, and are not updated any more" */
    private static void flushWritesAllUpdatedOnes() {
        Talk t = new Talk("both").run("0 block 7 swap ! update 1 block 8 swap ! update flush");
        t.disk(0, 0, 7).disk(1, 0, 8).buffer(0, 0).buffer(1, 10).cell(64, 7).cell(80, 8);
        t.run("9 64 ! 9 80 ! flush").disk(0, 0, 7).disk(1, 0, 8);
        Talk u = new Talk("the first only").run("0 block 7 swap ! update 1 block 8 swap ! flush");
        u.disk(0, 0, 7).disk(1, 0, 0).buffer(0, 0).buffer(1, 10).run("2 block").stack(64).buffer(0, 20);
        Talk v = new Talk("the second only").run("0 block 7 swap ! 1 block 8 swap ! update flush");
        v.disk(0, 0, 0).disk(1, 0, 8).buffer(0, 0).buffer(1, 10).run("update").buffer(0, 0).buffer(1, 11);
    }

    private static void flushOfNothing() {
        new Talk("flush alone").run("7 64 !").run("flush flush").looksLike(new Talk("nothing").run("7 64 !"));
    }

    private static void allSixteenOfABlock() {
        Talk t = new Talk("sixteen").run(": w 96 64 do i i ! loop ; 2 block drop 3 block drop w update");
        t.run("2 block drop update flush");
        for (int i = 0; i < 16; i++) {
            t.disk(2, i, 64 + i).disk(3, i, 80 + i).disk(0, i, 0).disk(1, i, 0);
        }
        t.run("0 block drop 1 block drop");
        for (int address = 64; address < 96; address++) {
            t.cell(address, 0);
        }
        t.run("2 block drop 3 block drop");
        for (int i = 0; i < 16; i++) {
            t.cell(64 + i, 80 + i).cell(80 + i, 64 + i);
        }
    }
}
