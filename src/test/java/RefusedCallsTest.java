/** "A call that is refused changes nothing."; what a call that asks answers at its bounds. */
public final class RefusedCallsTest {
    private static final int MIN = Integer.MIN_VALUE;
    private static final int MAX = Integer.MAX_VALUE;
    private static final int A = 0x61;
    private static final int AAAA = 0x61616161;

    public static void main(String[] args) {
        lengthsOneToFour();
        refusedByLength();
        refusedByCharacter();
        refusedByRoom();
        roomForTheLastCharacters();
        typedAnewAfterRun();
        whileCompiling();
        askingChangesNothing();
        askingCount();
        askingStack();
        askingOut();
        askingItems();
        askingBuffer();
        Talk.end();
    }

    /** "the n lowest bytes of word, the highest of them first" */
    private static void lengthsOneToFour() {
        new Talk("1").types(0x32333435, 1).run("").stack(5);
        new Talk("2").types(0x32333435, 2).run("").stack(45);
        new Talk("3").types(0x32333435, 3).run("").stack(345);
        new Talk("4").types(0x32333435, 4).run("").stack(2345);
        new Talk("bytes above them may be any").types(0xff808035, 1).types(0x007f3435, 2)
                .types(0x80333435, 3).run("").stack(545_345);
    }

    private static void refusedByLength() {
        int[] wrong = {0, -1, 5, 6, 8, 16, 32, 256 + 1, -4, MIN, MAX, MIN + 1};
        for (int n : wrong) {
            Talk t = new Talk("length " + n).type("12").refuses(0x33333333, n).refuses(0, n).run("5").stack(125);
            t.looksLike(new Talk("without it").run("125"));
        }
    }

    /** No byte of a refused word is typed, not even those before the wrong one. */
    private static void refusedByCharacter() {
        int[] words = {0x1f, 0x7f, 0x00, 0x80, 0xff, 0x31321f, 0x3132337f, 0x1f313233, 0x31ff3233};
        int[] lengths = {1, 1, 1, 1, 1, 3, 4, 4, 4};
        for (int k = 0; k < words.length; k++) {
            Talk t = new Talk("word " + words[k]).run(": w 5 ; 1 2 >r").type("12").refuses(words[k], lengths[k]);
            t.run("5").stack(1, 125).looksLike(new Talk("without it").run(": w 5 ; 1 2 >r").run("125"));
        }
    }

    /** "or more than 120 would be there" */
    private static void refusedByRoom() {
        for (int n = 1; n <= 4; n++) {
            for (int typed = 121 - n; typed <= 120; typed++) {
                Talk t = new Talk(n + " more behind " + typed).type(" ".repeat(typed)).refuses(AAAA, n);
                t.run("").looksLike(new Talk("without it").run(" ".repeat(typed)));
            }
        }
    }

    private static void roomForTheLastCharacters() {
        for (int n = 1; n <= 4; n++) {
            int place = 120 - n;
            Talk t = new Talk(n + " up to 120").type(" ".repeat(place)).types(AAAA, n).refuses(A, 1);
            t.refuses(AAAA, 4).fails("", 1, place);
        }
        Talk u = new Talk("one by one");
        for (int k = 0; k < 119; k++) {
            u.types(0x20, 1);
        }
        u.refuses(0x3132, 2).types(0x37, 1).refuses(0x38, 1).run("").stack(7);
        new Talk("refused, then fewer").type(" ".repeat(117)).refuses(0x31323334, 4).types(0x313233, 3).run("")
                .stack(123);
    }

    /** "nothing is typed then": there is room for 120 again, after an error too. */
    private static void typedAnewAfterRun() {
        Talk t = new Talk("120 again").run(" ".repeat(119) + "1").run(" ".repeat(119) + "2").stack(1, 2);
        t.fails("nope" + " ".repeat(116), 1, 0).run(" ".repeat(119) + "3").stack(3);
        t.fails("nope 1 2 3", 1, 0).run("").stack();
    }

    private static void whileCompiling() {
        Talk t = new Talk("in a definition").run(": w 1").type("2").refuses(0x1f, 1).refuses(AAAA, 0).run(" 3 ;");
        t.items(100, 3).run("w").stack(1, 2, 3);
    }

    private static void askingChangesNothing() {
        Talk t = new Talk("asked").run(": w 5 ; 1 2 3 >r 7 . 2 block drop update").type("4 5");
        int[] numbers = {-1, 0, 1, 7, 24, 40, 96, 100, 101, MIN, MAX};
        for (int k : numbers) {
            WordSmith smith = t.smith;
            int sum = smith.count(k) + smith.stack(k) + smith.out(k) + smith.cell(k) + smith.disk(k, k)
                    + smith.items(k) + smith.buffer(k);
            t.due("asking for " + k + " twice", sum, smith.count(k) + smith.stack(k) + smith.out(k)
                    + smith.cell(k) + smith.disk(k, k) + smith.items(k) + smith.buffer(k));
        }
        t.run("6").stack(1, 2, 4, 56);
        t.looksLike(new Talk("not asked").run(": w 5 ; 1 2 3 >r 7 . 2 block drop update").run("4 56"));
    }

    /** "-1 for another what" */
    private static void askingCount() {
        Talk t = new Talk("count").run("1 2 3 4 >r >r 5 . variable v 2 allot : w");
        int[] due = {2, 2, 1, 1, 3, 1, 600 - 12};
        for (int what = 0; what < due.length; what++) {
            t.count(what, due[what]);
        }
        int[] others = {-1, 7, 8, -2, 100, MIN, MAX};
        for (int what : others) {
            t.count(what, -1);
        }
        t.run("1 ;").count(5, 0).count(3, 2);
    }

    /** "0 if there is none" */
    private static void askingStack() {
        Talk t = new Talk("stack").stackAt(0, 0).stackAt(-1, 0).run("7").stackAt(0, 7).stackAt(1, 0);
        t.stackAt(-1, 0).run("8 9").stackAt(0, 9).stackAt(2, 7).stackAt(3, 0).stackAt(MIN, 0).stackAt(MAX, 0);
        t.run("drop drop").stackAt(0, 7).stackAt(1, 0).stackAt(2, 0).run("drop").stackAt(0, 0);
        t.run("6 ".repeat(23) + "5").stackAt(0, 5).stackAt(23, 6).stackAt(24, 0).stackAt(25, 0).stackAt(-1, 0);
        t.fails("nope", 1, 0).stackAt(0, 0).stackAt(23, 0);
        new Talk("not the return stack").run("1 2 >r").stackAt(0, 1).stackAt(1, 0).stackAt(-1, 0);
    }

    private static void askingOut() {
        Talk t = new Talk("out").outAt(0, 0).run("7 . 8 .").outAt(0, 7).outAt(1, 8).outAt(2, 0).outAt(-1, 0);
        t.outAt(MIN, 0).outAt(MAX, 0).outAt(39, 0).outAt(40, 0);
    }

    /** "-1 if there is none (a variable or constant has one)" */
    private static void askingItems() {
        Talk t = new Talk("items").items(100, -1).run("variable v").items(100, 1).items(101, -1);
        t.run("5 constant c").items(101, 1).items(102, -1).run(": w ;").items(102, 0).items(103, -1);
        t.items(99, -1).items(0, -1).items(12, -1).items(51, -1).items(-100, -1).items(MIN, -1).items(MAX, -1);
        t.run(": half 1").items(103, -1).run("2 ;").items(103, 2);
    }

    /** "-1 if it has none, or there is no such buffer" */
    private static void askingBuffer() {
        Talk t = new Talk("buffer").buffer(0, -1).buffer(1, -1).run("0 block drop").buffer(0, 0).buffer(1, -1);
        t.run("3 block drop update").buffer(0, 0).buffer(1, 31).buffer(2, -1).buffer(-1, -1);
        t.buffer(MIN, -1).buffer(MAX, -1).buffer(64, -1).buffer(80, -1);
    }
}
