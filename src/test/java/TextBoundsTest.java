/** Bounds of texts, tokens, numbers and names, a sentence of the document for each method. */
public final class TextBoundsTest {
    private static final String TEN = "abcdefghij";

    public static void main(String[] args) {
        charactersFrom32To126();
        emptyTexts();
        longestRowsOtherThanSpaces();
        oneToSixDigits();
        onlyDigits();
        aMinusBeforeThem();
        oneToNineCharacters();
        tenCharacters();
        fiveHundredAndTwelveCalls();
        Talk.end();
    }

    /** "A TEXT is a row of characters 32 .. 126": as the only byte, and in each place of several. */
    private static void charactersFrom32To126() {
        for (int character = 0; character <= 255; character++) {
            Talk t = new Talk("character " + character);
            for (int n = 1; n <= 4; n++) {
                for (int place = 0; place < n; place++) {
                    int shift = 8 * place;
                    int word = 0x31313131 & ~(255 << shift) | character << shift;
                    if (character < 32 || character > 126) {
                        t.refuses(word, n);
                    } else {
                        t.types(word, n);
                    }
                }
            }
        }
    }

    private static void emptyTexts() {
        new Talk("nothing typed").run("").stack().count(6, 600);
        new Talk("one space").run(" ").stack().count(6, 600);
        new Talk("120 spaces").run(" ".repeat(120)).stack().count(6, 600);
        new Talk("nothing in a definition").run(": w").run("").run(" ").count(5, 1).run(";").items(100, 0);
    }

    /** "its TOKENS are the longest rows of characters other than spaces" */
    private static void longestRowsOtherThanSpaces() {
        new Talk("no spaces at the ends").run("1 2").stack(1, 2);
        new Talk("spaces at the ends").run("  1   2  ").stack(1, 2);
        new Talk("the first character").fails("x", 1, 0);
        new Talk("the last character").fails(" ".repeat(119) + "x", 1, 119);
        new Talk("a number at the end of 120").run(" ".repeat(114) + "123456").stack(123456);
        new Talk("one token of 120").fails("x".repeat(120), 1, 0);
        new Talk("58 tokens of one character").run(": w " + "1 ".repeat(58)).run(";").items(100, 58);
        new Talk("a token ends with its text").run("12").run("34").stack(12, 34);
        new Talk("no name in the next text").fails(":", 6, 0).fails("w", 1, 0).count(5, 0);
        new Talk("! and ~ are no spaces").run(": ! 1 ; : ~ 2 ; ! ~").stack(1, 2).fails("!~", 1, 0);
    }

    /** "A NUMBER is a token of 1 .. 6 digits, maybe with a - before them." */
    private static void oneToSixDigits() {
        Talk t = new Talk("digits");
        int[] values = {1, 12, 123, 1234, 12345, 123456};
        for (int value : values) {
            t.run(value + " -" + value).stack(value, -value).run("drop drop");
        }
        t.run("999999 -999999 000009 -00009").stack(999999, -999999, 9, -9);
        t.fails("1234567", 1, 0).fails("-1234567", 1, 0).fails("0000001", 1, 0);
        t.fails("12345678", 1, 0).fails("-12345678", 1, 0).fails("123456789", 1, 0);
        Talk u = new Talk("seven digits are a name").run(": 1234567 5 ; 1234567 ' 1234567").stack(5, 100);
        u.run("6 constant -1234567 -1234567").stack(5, 100, 6).run(": 123456789 7 ; 123456789");
        u.stack(5, 100, 6, 7).fails("' 1234568", 1, 0);
        Talk v = new Talk("ten digits are neither").fails("1234567890", 1, 0).fails(": 1234567890", 6, 0);
        v.fails(": w 1234567890", 1, 4).fails("-123456789", 1, 0).fails(": -123456789", 6, 0);
    }

    /** The characters around the digits are none. */
    private static void onlyDigits() {
        String[] names = {"1/", "/1", "1:", ":1", "1a", "a1", "1-", "1-1", "1.", "+1", "--1", "-1-", "-/", "-:"};
        for (String name : names) {
            Talk t = new Talk("no number: " + name).fails(name, 1, 0);
            t.run(": " + name + " 7 ; " + name).stack(7);
        }
        new Talk("all digits").run("1234 567890 9 0").stack(1234, 567890, 9, 0);
    }

    private static void aMinusBeforeThem() {
        new Talk("a - alone is a word").run("7 5 -").stack(2).fails("-", 2, 0);
        new Talk("a - apart from its digits").fails("9 - 5", 2, 2).run("9 -5").stack(9, -5);
        new Talk("a - before a 0").run("-0 -000000").stack(0, 0);
    }

    /** "A NAME is any other token of 1 .. 9 characters." */
    private static void oneToNineCharacters() {
        Talk t = new Talk("lengths of names");
        for (int length = 1; length <= 9; length++) {
            String name = TEN.substring(0, length);
            t.fails(name, 1, 0).run(": " + name + " " + length + " ; " + name).stack(length);
            t.run("' " + name).stack(length, 99 + length).run("drop drop");
        }
        t.run("variable ninechars 5 constant charsnine ninechars charsnine").stack(0, 5);
        new Talk("all of a name counts").run(": abcdefghi 1 ; : abcdefghj 2 ; abcdefghi").stack(1)
                .fails("abcdefgh", 1, 0).fails("Abcdefghi", 1, 0);
    }

    /** "1: ... a token is neither number nor name"; "6: ... a name that is ... not a name (32 .. 35)" */
    private static void tenCharacters() {
        Talk t = new Talk("ten characters").fails("1 " + TEN, 1, 2).fails(": w " + TEN, 1, 4).count(5, 0);
        t.fails("1 : " + TEN, 6, 2).fails("1 variable " + TEN, 6, 2).fails("1 constant " + TEN, 6, 2);
        t.fails("1 ' " + TEN, 6, 2).count(3, 0).count(4, 0).count(5, 0).stack();
        t.fails("' " + "x".repeat(118), 6, 0).fails(": " + TEN + " ;", 6, 0);
    }

    /** "An object is used for at most 512 calls": the last of them is answered like the first. */
    private static void fiveHundredAndTwelveCalls() {
        Talk t = new Talk("512 calls").run(": w dup * ;");
        for (int k = 0; k < 500; k++) {
            t.count(3, 1);
        }
        t.run("9 w 1 +").stack(82);
        Talk u = new Talk("512 calls of type");
        for (int k = 0; k < 101; k++) {
            u.types(0x31202e20, 4).run("").run("").outAt(Math.min(k, 39), 1).count(2, k + 1);
        }
        u.outAt(40, 0);
    }
}
