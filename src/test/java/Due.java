import java.nio.charset.StandardCharsets;
import java.util.Arrays;

/** What the tests share: sentences of the document, answers that are due, words, texts for the tape. */
final class Due {
    private static int wrong = 0;
    private static int asked = 0;
    private static String sentence = "";
    private static int askedAhead = -1;

    private Due() {
    }

    /** What follows looks at these words of a promise; SentencesTest finds them in the document. */
    static void promise(int number, String words) {
        begin("Promise " + number + ": " + words);
    }

    /** What follows looks at these words of the document's 'What it is'. */
    static void opening(String words) {
        begin("What it is: " + words);
    }

    /** What follows looks at these words of the document's 'Terms'. */
    static void terms(String words) {
        begin("Terms: " + words);
    }

    private static void begin(String next) {
        if (asked == askedAhead) {
            holds("something is asked", false);
        }
        askedAhead = asked;
        sentence = "[" + next + "] ";
    }

    static void due(String call, long got, long want) {
        asked++;
        if (got != want) {
            wrong++;
            System.out.println(sentence + call + " answered " + got + ", due is " + want);
        }
    }

    static void holds(String what, boolean is) {
        asked++;
        if (!is) {
            wrong++;
            System.out.println(sentence + "does not hold: " + what);
        }
    }

    /** The last call of every test: it fails too if nothing was asked. */
    static void finish() {
        begin("the end");
        System.out.println(asked + " asked, " + wrong + " wrong");
        if (wrong != 0 || asked == 0) {
            throw new AssertionError(wrong + " wrong");
        }
    }

    static long word(String letters) {
        long word = 0;
        for (char c : letters.toCharArray()) {
            word = word * 32 + c - 'a' + 1;
        }
        return word;
    }

    /** Puts a text on an empty tape, eight bytes a call, and cuts off what the last one has more. */
    static void type(FamilyNames x, String text) {
        byte[] bytes = text.getBytes(StandardCharsets.ISO_8859_1);
        for (int i = 0; i < bytes.length; i += 8) {
            x.feed(eightBytes(bytes, i));
        }
        x.end(bytes.length);
    }

    static long eightBytes(byte[] bytes, int from) {
        byte[] eight = Arrays.copyOfRange(bytes, from, from + 8);
        long v = 0;
        for (byte b : eight) {
            v = v << 8 | b & 255;
        }
        return v;
    }

    static int tell(FamilyNames x, String text) {
        type(x, text);
        return x.rules();
    }

    static FamilyNames withWords(String... words) {
        FamilyNames x = new FamilyNames();
        for (int i = 0; i < words.length; i++) {
            due("spelling " + words[i], x.spelling(word(words[i])), i);
        }
        return x;
    }
}
