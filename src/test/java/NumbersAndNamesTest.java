/** Tokens, numbers, names, and which word a name means. */
public final class NumbersAndNamesTest {
    public static void main(String[] args) {
        numbers();
        otherTokens();
        namesThatAreTaken();
        theLatestWordCounts();
        numbersOfBuiltInWords();
        Talk.end();
    }

    private static void numbers() {
        new Talk("numbers").run("0 -0 007 999999 -999999 000000 -1")
                .stack(0, 0, 7, 999999, -999999, 0, -1);
    }

    private static void otherTokens() {
        Talk t = new Talk("tokens that are no numbers");
        String[] unknown = {"1234567", "-1234567", "1234567890", "--1", "1-", "+1", "1.", "-1a",
            "abcdefghi", "abcdefghij", "DUP", "Dup", "dupp", "du", "-12345678", "0x1", "~", ":a"};
        for (String token : unknown) {
            t.fails("1 " + token, 1, 2);
            t.fails(": w " + token + " ;", 1, 4);
            t.count(5, 0);
        }
    }

    private static void namesThatAreTaken() {
        Talk t = new Talk("names that can be taken");
        t.run(": abcdefghi 1 ; : 1234567 2 ; : -1234567 3 ; : 1+ 4 ; : ~ 5 ;").count(3, 5);
        t.run("abcdefghi 1234567 -1234567 1+ ~").stack(1, 2, 3, 4, 5);
        Talk u = new Talk("names that can't be taken");
        String[] words = {":", "variable", "5 constant", "'"};
        String[] names = {"", "   ", " 12", " -5", " 123456", " -123456", " abcdefghij"};
        for (String word : words) {
            int place = word.length() > 9 ? 2 : 0;
            for (String name : names) {
                u.fails(word + name, 6, place).count(3, 0).count(4, 0).count(5, 0);
            }
            u.fails(word + " 12 dup", 6, place);
        }
    }

    private static void theLatestWordCounts() {
        Talk t = new Talk("words of one name");
        t.run(": a 1 ; : b a ; : a 2 ; a b ' a ' b").stack(2, 1, 102, 101);
        t.run(": a a 10 * ; a").stack(2, 1, 102, 101, 20);
        t.run("drop drop drop drop drop variable a 7 constant a a").stack(7);
        t.run(": dup 5 ; dup ' dup").stack(7, 5, 106);
        t.run(": + * ; 3 4 +").stack(7, 5, 106, 12);
        Talk u = new Talk("a word of the name ;").run(": ; 4 ; ;").stack(4);
        u.run(": x ; ").count(5, 1);
        new Talk("a word of the name if").run(": if 6 ; : x if ; x").stack(6).items(101, 1);
        new Talk("found behind its ; only").fails(": a a ;", 1, 4);
    }

    private static void numbersOfBuiltInWords() {
        String names = "+ - * / mod and or xor = < 0= negate dup drop swap over rot depth . @ ! +! "
                + "here , allot >r r> r@ i j exit execute ' variable constant : immediate block "
                + "update flush ; if then else begin until again while repeat do loop recurse";
        String[] words = names.split(" ");
        Talk t = new Talk("numbers of built-in words").due("how many", words.length, 52);
        for (int k = 0; k < words.length; k++) {
            t.run("' " + words[k]).stack(k).run("drop");
        }
    }
}
