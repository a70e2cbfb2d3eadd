public final class Promise02TypeTest {
    public static void main(String[] args) {
        highestByteComesFirst();
        onlyTheLowestBytesCount();
        lengthsAreLookedAt();
        charactersAreLookedAt();
        refusedOnesChangeNothing();
        noMoreThan120();
        Talk.end();
    }

    private static Talk types(Talk t, int word, int n, boolean want) {
        return t.due("type(" + word + ", " + n + ")", t.smith.type(word, n) ? 1 : 0, want ? 1 : 0);
    }

    private static void highestByteComesFirst() {
        Talk t = new Talk("the order of bytes");
        types(t, 0x31203233, 4, true);
        t.run("").stack(1, 23);
        types(t, 0x343536, 3, true);
        t.run("").stack(1, 23, 456);
        types(t, 0x3738, 2, true);
        types(t, 0x39, 1, true);
        t.run("").stack(1, 23, 456, 789);
    }

    private static void onlyTheLowestBytesCount() {
        Talk t = new Talk("bytes above the lowest n");
        types(t, 0xff000031, 1, true);
        types(t, 0x80000132, 1, true);
        types(t, 0x00ff3334, 2, true);
        types(t, 0xff353620, 3, true);
        t.run("").stack(123456);
    }

    private static void lengthsAreLookedAt() {
        Talk t = new Talk("lengths");
        int[] wrong = {0, 5, -1, 6, 8, 32, Integer.MIN_VALUE, Integer.MAX_VALUE};
        for (int n : wrong) {
            types(t, 0x31313131, n, false);
        }
        t.run("").stack();
    }

    private static void charactersAreLookedAt() {
        Talk t = new Talk("characters");
        int[] wrong = {0, 9, 10, 31, 127, 128, 160, 255};
        for (int character : wrong) {
            types(t, character, 1, false);
            types(t, character << 8 | 0x31, 2, false);
            types(t, 0x3100 | character, 2, false);
            types(t, character << 24 | 0x313131, 4, false);
            types(t, 0x31003131 | character << 16, 4, false);
        }
        types(t, -1, 4, false);
        t.run("").stack();
        types(t, 32, 1, true);
        types(t, 126, 1, true);
        t.fails("", 1, 1);
        for (int character = 33; character <= 126; character++) {
            types(t, character, 1, true);
        }
        t.fails("", 1, 0);
    }

    private static void refusedOnesChangeNothing() {
        Talk t = new Talk("refused ones").type("12");
        types(t, 0x33ff, 2, false);
        types(t, 0x34, 0, false);
        types(t, 0x1f353637, 4, false);
        t.run("3").stack(123);
    }

    private static void noMoreThan120() {
        Talk t = new Talk("the length of what is typed");
        t.type(" ".repeat(116)).type("12");
        types(t, 0x333333, 3, false);
        types(t, 0x33333333, 4, false);
        types(t, 0x3334, 2, true);
        types(t, 0x35, 1, false);
        t.run("").stack(1234);
        t.type(" ".repeat(119)).type("x");
        t.fails("", 1, 119);
    }
}
