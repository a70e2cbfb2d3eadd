import java.util.Random;

/** Runs of up to 512 calls made by chance (always the same ones): none throws, all keep to the limits. */
public final class AnyCallsTest {
    private static final String[] WORDS = ("+ - * / mod and or xor = < 0= negate dup drop swap over "
            + "rot depth . @ ! +! here , allot >r r> r@ i j exit execute ' variable constant : "
            + "immediate block update flush ; if then else begin until again while repeat do loop "
            + "recurse 0 1 2 3 5 24 63 95 96 100 101 -1 999999 a b c dd nope toolongname 1234567 "
            + ": : : ; ; ; ; 1 2 3 4 a a b b").split(" ");
    private static final int[] NUMBERS = {0, 1, 2, 3, 4, 5, 6, 7, 15, 16, 23, 24, 39, 40, 41, 64, 95,
        96, 100, 123, 124, -1, Integer.MIN_VALUE, Integer.MAX_VALUE};

    /** The most that count may answer, by what it is asked. */
    private static final int[] LIMITS = {24, 24, Integer.MAX_VALUE, 24, 64, 1, 600};

    public static void main(String[] args) {
        for (int seed = 0; seed < 300; seed++) {
            Talk t = new Talk("calls by chance, run " + seed);
            long first = hashOfRun(new WordSmith(), new Random(seed), t);
            long second = hashOfRun(new WordSmith(), new Random(seed), t);
            t.due("the same run again", second, first);
        }
        Talk.end();
    }

    private static long hashOfRun(WordSmith smith, Random chance, Talk t) {
        long hash = 0;
        String waiting = "";
        int calls = 0;
        while (calls < 504) {
            int kind = chance.nextInt(20);
            calls++;
            if (kind < 14) {
                while (waiting.length() < 4) {
                    waiting += WORDS[chance.nextInt(WORDS.length)] + " ";
                }
                hash = 31 * hash + (smith.type(packed(waiting), 4) ? 1 : 0);
                waiting = waiting.substring(4);
            } else if (kind < 16) {
                int answer = smith.run();
                boolean fits = answer == 0 || answer <= -1000 && answer > -9000 && -answer % 1000 < 120;
                t.due("an answer like " + answer, fits ? 1 : 0, 1);
                hash = 31 * hash + answer;
                keepsToTheLimits(smith, t);
                calls += LIMITS.length;
            } else {
                hash = 31 * hash + asked(smith, chance);
            }
        }
        return hash;
    }

    private static int packed(String text) {
        return text.charAt(0) << 24 | text.charAt(1) << 16 | text.charAt(2) << 8 | text.charAt(3);
    }

    private static int asked(WordSmith smith, Random chance) {
        int a = NUMBERS[chance.nextInt(NUMBERS.length)];
        int b = NUMBERS[chance.nextInt(NUMBERS.length)];
        switch (chance.nextInt(8)) {
            case 0: return smith.count(a);
            case 1: return smith.stack(a);
            case 2: return smith.out(a);
            case 3: return smith.cell(a);
            case 4: return smith.disk(a, b);
            case 5: return smith.items(a);
            case 6: return smith.buffer(a);
            default: return smith.type(a, b) ? 1 : 0;
        }
    }

    private static void keepsToTheLimits(WordSmith smith, Talk t) {
        for (int what = 0; what < LIMITS.length; what++) {
            int count = smith.count(what);
            if (count < 0 || count > LIMITS[what]) {
                t.due("count(" + what + ") within its limits", count, LIMITS[what]);
            }
        }
    }
}
