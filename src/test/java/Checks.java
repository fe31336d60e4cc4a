import java.io.IOException;
import java.util.Set;
import java.util.TreeSet;

/** Counts answers, and says of one that is not as due which promise and which sentence of the document it breaks. */
final class Checks {
    static final int UNKNOWN = -1, OUTSIDE = -2, STATE = -3, FULL = -4, NO = -5, NONE = -6;
    static final long LOST = -1000000000000000000L;
    static final int LEAST = Integer.MIN_VALUE, GREATEST = Integer.MAX_VALUE;
    /** For sentences of the document's "What it is" and "Terms" that belong to no one promise. */
    static final int TERMS = 0;
    static final int PROMISES = 33;

    private final Document document;
    private final Set<Integer> promises = new TreeSet<>();
    private String where = "";
    private int passed = 0;
    private int failed = 0;

    Checks(String pathOfDocument) throws IOException {
        document = new Document(pathOfDocument);
    }

    /** What follows holds this sentence, which must stand in the document's terms or at this promise. */
    void sentence(int promise, String words) {
        promises.add(promise);
        where = (promise == TERMS ? "terms" : "promise " + promise) + ", \"" + words + "\"";
        if (!document.quote(promise, words)) {
            failed++;
            System.out.println(where + " does not stand in the document");
        }
    }

    void due(String what, long got, long want) {
        if (got == want) {
            passed++;
            return;
        }
        failed++;
        System.out.println(where + ": " + what + " answered " + got + ", due is " + want);
    }

    void end() {
        for (int promise = TERMS; promise <= PROMISES; promise++) {
            if (!promises.contains(promise)) {
                failed++;
                System.out.println("no sentence of promise " + promise + " is tested");
            }
        }
        for (String sentence : document.unquoted()) {
            failed++;
            System.out.println("no test of " + sentence);
        }
        System.out.println(passed + " passed, " + failed + " failed");
        if (failed > 0) System.exit(1);
    }

    static void spell(WordsFirst x, String text) {
        for (char c : text.toCharArray()) x.say(c);
    }

    static int add(WordsFirst x, String text, int often) {
        spell(x, text);
        return x.word(often);
    }

    /** A book: "ab=01 10" is the word ab with the sounds 0 and 1, which stands ten times. */
    static WordsFirst book(String... words) {
        WordsFirst x = new WordsFirst();
        for (String word : words) {
            String[] two = word.split(" ");
            add(x, two[0], Integer.parseInt(two[1]));
        }
        return x;
    }

    /** A book of so many words of one sign each, or of two from the eleventh on; each stands as often as told. */
    static WordsFirst bookOf(int words, int often) {
        WordsFirst x = new WordsFirst();
        for (int w = 0; w < words; w++) {
            char letter = (char) ('a' + w % 10);
            char digit = (char) ('0' + w % 10);
            add(x, w < 10 ? letter + "=" + digit : "" + letter + letter + "=" + digit + digit, often);
        }
        return x;
    }
}
