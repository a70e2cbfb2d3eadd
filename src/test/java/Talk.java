import java.nio.charset.StandardCharsets;

/** A new WordSmith that a test talks to; prints and counts every answer that is not due. */
final class Talk {
    private static int asked = 0;
    private static int wrong = 0;

    final WordSmith smith = new WordSmith();
    private final String title;

    Talk(String title) {
        this.title = title;
    }

    /** Ends the test; with exit code 1 if an answer was wrong. */
    static void end() {
        System.out.println(asked + " answers, " + wrong + " wrong");
        if (wrong != 0 || asked == 0) {
            System.exit(1);
        }
    }

    Talk due(String call, long got, long want) {
        asked++;
        if (got != want) {
            wrong++;
            System.out.println(title + ": " + call + " answered " + got + ", due is " + want);
        }
        return this;
    }

    /** Types a text, four characters a call. */
    Talk type(String text) {
        byte[] bytes = text.getBytes(StandardCharsets.ISO_8859_1);
        for (int from = 0; from < bytes.length; from += 4) {
            int n = Math.min(4, bytes.length - from);
            int word = 0;
            for (int k = 0; k < n; k++) {
                word = word << 8 | bytes[from + k];
            }
            due("typing '" + text + "'", smith.type(word, n) ? 1 : 0, 1);
        }
        return this;
    }

    private Talk answers(String text, int want) {
        type(text);
        return due("running '" + text + "'", smith.run(), want);
    }

    /** Runs a text in which no error is due. */
    Talk run(String text) {
        return answers(text, 0);
    }

    /** Runs a text in which this error is due at this place. */
    Talk fails(String text, int error, int place) {
        return answers(text, -1000 * error - place);
    }

    /** The data stack has these numbers, the top on the right. */
    Talk stack(int... numbers) {
        count(0, numbers.length);
        for (int k = 0; k < numbers.length; k++) {
            due("stack(" + k + ")", smith.stack(k), numbers[numbers.length - 1 - k]);
        }
        return this;
    }

    /** The output has these numbers. */
    Talk out(int... numbers) {
        count(2, numbers.length);
        for (int k = 0; k < numbers.length; k++) {
            due("out(" + k + ")", smith.out(k), numbers[k]);
        }
        return this;
    }

    Talk count(int what, int want) {
        return due("count(" + what + ")", smith.count(what), want);
    }

    Talk cell(int address, int want) {
        return due("cell(" + address + ")", smith.cell(address), want);
    }

    Talk disk(int b, int i, int want) {
        return due("disk(" + b + ", " + i + ")", smith.disk(b, i), want);
    }

    Talk items(int t, int want) {
        return due("items(" + t + ")", smith.items(t), want);
    }

    Talk buffer(int k, int want) {
        return due("buffer(" + k + ")", smith.buffer(k), want);
    }
}
