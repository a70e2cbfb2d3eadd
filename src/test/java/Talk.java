import java.nio.charset.StandardCharsets;
import java.util.ArrayList;
import java.util.List;

/** A new WordSmith that a test talks to; prints and counts every answer that is not due. */
final class Talk {
    // What an object answers after so many calls is free, so no test may build on it.
    private static final int MAX_CALLS = 512;

    private static int asked = 0;
    private static int wrong = 0;

    final WordSmith smith = new WordSmith();
    private final String title;
    private int calls = 0;

    Talk(String title) {
        this.title = title;
    }

    /** Ends the test; with exit code 1 if an answer was wrong. */
    static void end() {
        System.out.println(asked + " answers, " + wrong + " wrong");
        if (wrong != 0 || asked == 0) {
            System.exit(1);
        }
    }

    Talk due(String call, long got, long want) {
        asked++;
        countCall();
        if (got != want) {
            wrong++;
            System.out.println(title + ": " + call + " answered " + got + ", due is " + want);
        }
        return this;
    }

    private void countCall() {
        calls++;
        if (calls == MAX_CALLS + 1) {
            wrong++;
            System.out.println(title + ": the test makes more than " + MAX_CALLS + " calls");
        }
    }

    /** A call of type that is taken. */
    Talk types(int word, int n) {
        return due("type(" + word + ", " + n + ")", smith.type(word, n) ? 1 : 0, 1);
    }

    /** A call of type that is refused. */
    Talk refuses(int word, int n) {
        return due("type(" + word + ", " + n + ")", smith.type(word, n) ? 1 : 0, 0);
    }

    /** Types a text, four characters a call. */
    Talk type(String text) {
        byte[] bytes = text.getBytes(StandardCharsets.ISO_8859_1);
        for (int from = 0; from < bytes.length; from += 4) {
            int n = Math.min(4, bytes.length - from);
            int word = 0;
            for (int k = 0; k < n; k++) {
                word = word << 8 | bytes[from + k];
            }
            due("typing '" + text + "'", smith.type(word, n) ? 1 : 0, 1);
        }
        return this;
    }

    private Talk answers(String text, int want) {
        type(text);
        return due("running '" + text + "'", smith.run(), want);
    }

    /** Runs a text in which no error is due. */
    Talk run(String text) {
        return answers(text, 0);
    }

    /** Runs a text in which this error is due at this place. */
    Talk fails(String text, int error, int place) {
        return answers(text, -1000 * error - place);
    }

    /** The data stack has these numbers, the top on the right. */
    Talk stack(int... numbers) {
        count(0, numbers.length);
        for (int k = 0; k < numbers.length; k++) {
            due("stack(" + k + ")", smith.stack(k), numbers[numbers.length - 1 - k]);
        }
        return this;
    }

    /** The output has these numbers. */
    Talk out(int... numbers) {
        count(2, numbers.length);
        for (int k = 0; k < numbers.length; k++) {
            due("out(" + k + ")", smith.out(k), numbers[k]);
        }
        return this;
    }

    Talk count(int what, int want) {
        return due("count(" + what + ")", smith.count(what), want);
    }

    Talk cell(int address, int want) {
        return due("cell(" + address + ")", smith.cell(address), want);
    }

    Talk disk(int b, int i, int want) {
        return due("disk(" + b + ", " + i + ")", smith.disk(b, i), want);
    }

    Talk items(int t, int want) {
        return due("items(" + t + ")", smith.items(t), want);
    }

    Talk buffer(int k, int want) {
        return due("buffer(" + k + ")", smith.buffer(k), want);
    }

    Talk stackAt(int k, int want) {
        return due("stack(" + k + ")", smith.stack(k), want);
    }

    Talk outAt(int k, int want) {
        return due("out(" + k + ")", smith.out(k), want);
    }

    /** Everything that the face tells, but the fuel, is as in another talk. */
    Talk looksLike(Talk other) {
        List<String> mine = look();
        List<String> others = other.look();
        for (int k = 0; k < mine.size(); k++) {
            boolean alike = mine.get(k).equals(others.get(k));
            String call = "against '" + other.title + "', " + mine.get(k) + " and " + others.get(k);
            asked++;
            if (!alike) {
                wrong++;
                System.out.println(title + ": " + call);
            }
        }
        return this;
    }

    private List<String> look() {
        List<String> seen = new ArrayList<>();
        for (int what = 0; what <= 5; what++) {
            see(seen, "count(" + what + ")", smith.count(what));
        }
        for (int k = 0; k < 24; k++) {
            see(seen, "stack(" + k + ")", smith.stack(k));
            see(seen, "items(" + (100 + k) + ")", smith.items(100 + k));
        }
        for (int k = 0; k < 40; k++) {
            see(seen, "out(" + k + ")", smith.out(k));
        }
        for (int address = 0; address < 96; address++) {
            see(seen, "cell(" + address + ")", smith.cell(address));
        }
        for (int k = 0; k < 64; k++) {
            see(seen, "disk(" + k / 16 + ", " + k % 16 + ")", smith.disk(k / 16, k % 16));
        }
        see(seen, "buffer(0)", smith.buffer(0));
        see(seen, "buffer(1)", smith.buffer(1));
        return seen;
    }

    private void see(List<String> seen, String call, int got) {
        countCall();
        seen.add(call + " answered " + got);
    }
}
