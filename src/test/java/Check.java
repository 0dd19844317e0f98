import java.nio.charset.StandardCharsets;

/** What the tests share: objects from texts, and a count of wrong answers. */
final class Check {
    private int wrong = 0;
    private int asked = 0;
    private String sentence = "";

    /** From now on, what is wrong is told with the name of this sentence of the document. */
    void sentence(String name) {
        sentence = name + ": ";
    }

    void due(String what, long got, long want) {
        asked++;
        if (got != want) {
            wrong++;
            System.out.println(sentence + what + " answered " + got + ", due is " + want);
        }
    }

    void due(String what, boolean got, boolean want) {
        due(what, got ? 1 : 0, want ? 1 : 0);
    }

    /** Prints the outcome, and ends the test with 1 if an answer was wrong. */
    void end(String test) {
        System.out.println(test + ": " + asked + " answers, " + wrong + " wrong");
        if (wrong != 0) {
            System.exit(1);
        }
    }

    static byte[] bytes(String text) {
        return text.getBytes(StandardCharsets.ISO_8859_1);
    }

    /** Feeds a text, filled up with blanks that go back again. */
    static void feed(LentSundays x, String text) {
        byte[] bytes = bytes(text);
        int[] words = new int[5];
        for (int from = 0; from < bytes.length; from += 20) {
            for (int w = 0; w < 5; w++) {
                words[w] = 0;
                for (int i = 0; i < 4; i++) {
                    int place = from + 4 * w + i;
                    words[w] = words[w] << 8 | (place < bytes.length ? bytes[place] & 255 : 32);
                }
            }
            x.feed(words[0], words[1], words[2], words[3], words[4]);
        }
        x.back((20 - bytes.length % 20) % 20);
    }

    static int read(LentSundays x, String text) {
        feed(x, text);
        return x.read();
    }

    /** A new object of a text that must have no fault. */
    static LentSundays of(String text) {
        LentSundays x = new LentSundays();
        int fault = read(x, text);
        if (fault != 0) {
            System.out.println("fault " + fault + " at " + x.place() + " in: " + text);
            System.exit(1);
        }
        return x;
    }
}
