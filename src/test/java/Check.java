import java.io.IOException;
import java.io.UncheckedIOException;
import java.nio.charset.StandardCharsets;
import java.nio.file.Files;
import java.nio.file.Path;
import java.util.ArrayList;
import java.util.Arrays;
import java.util.List;
import java.util.function.Consumer;

/** What all tests share: compared answers, sentences of the document, and texts put on the tape. */
final class Check {
    interface Call {
        long answer();
    }

    interface Deed {
        void run();
    }

    private static final String DOCUMENT = read(Path.of("../shared/DOC.md"));

    private final List<String> sentences = new ArrayList<>();
    private final boolean ofWords;
    private int compared = 0;
    private int wrong = 0;

    Check() {
        this(false);
    }

    private Check(boolean ofWords) {
        this.ofWords = ofWords;
    }

    /** One that hears which sentences have a test, and makes none of these tests. */
    static Check ofWords() {
        return new Check(true);
    }

    List<String> sentences() {
        return sentences;
    }

    /** Empty, where the document does not stand beside the project. */
    static String document() {
        return DOCUMENT;
    }

    /** From a heading to the next one. */
    static String section(String heading) {
        int from = DOCUMENT.indexOf(heading);
        int to = DOCUMENT.indexOf("\n## ", from + 1);
        return from < 0 || to < 0 ? "" : DOCUMENT.substring(from, to);
    }

    void due(String what, long got, long want) {
        compared++;
        if (got != want) {
            wrong++;
            System.out.println(what + " answered " + got + ", due is " + want);
        }
    }

    void due(String what, boolean got, boolean want) {
        due(what, got ? 1 : 0, want ? 1 : 0);
    }

    void due(String what, String got, String want) {
        compared++;
        if (!got.equals(want)) {
            wrong++;
            System.out.println(what + " answered " + got + ", due is " + want);
        }
    }

    /** The exception must be of just this class: the machine's own ones are of classes below the document's. */
    void refused(String what, Class<? extends RuntimeException> kind, Deed deed) {
        due(what, kindThrown(deed), kind.getName());
    }

    private static String kindThrown(Deed deed) {
        try {
            deed.run();
            return "nothing";
        } catch (RuntimeException e) {
            return e.getClass().getName();
        }
    }

    /** Puts a text on the tape that is empty: bytes are told by their numbers as in Latin 1. */
    static void put(RiddleRoad x, String text) {
        byte[] bytes = text.getBytes(StandardCharsets.ISO_8859_1);
        for (int from = 0; from < bytes.length; from += 20) {
            int[] numbers = new int[5];
            for (int i = 0; i < 20; i++) {
                int b = from + i < bytes.length ? bytes[from + i] & 255 : 0;
                numbers[i / 4] = numbers[i / 4] << 8 | b;
            }
            x.feed(numbers[0], numbers[1], numbers[2], numbers[3], numbers[4]);
        }
        x.end(bytes.length);
    }

    static int road(RiddleRoad x, String text) {
        put(x, text);
        return x.road();
    }

    static int law(RiddleRoad x, String text) {
        put(x, text);
        return x.law();
    }

    static int chain(RiddleRoad x, String text) {
        put(x, text);
        return x.chain();
    }

    static int lie(RiddleRoad x, String text, int e) {
        put(x, text);
        return x.lie(e);
    }

    static RiddleRoad told(String text) {
        RiddleRoad x = new RiddleRoad();
        road(x, text);
        return x;
    }

    /** All that can be looked at without a change, but for the fault and the tape. */
    static String all(RiddleRoad x) {
        int[] counts = new int[13];
        for (int what = 0; what < 13; what++) {
            counts[what] = x.count(what);
        }
        int seed = x.seed(0);
        x.seed(seed);
        StringBuilder all = new StringBuilder("counts " + Arrays.toString(counts) + ", seed " + seed);
        for (int g = 0; g < counts[0]; g++) {
            all.append(", gate ").append(g);
            for (int what = 0; what < 6; what++) {
                all.append(' ').append(x.gate(g, what));
            }
            for (int chain = 0; chain < counts[9]; chain++) {
                all.append(" letter ").append(x.letter(chain, g));
            }
        }
        for (int w = 0; w < counts[1]; w++) {
            all.append(", walker ").append(w);
            for (int what = 0; what < 6; what++) {
                all.append(' ').append(x.walker(w, what));
            }
            for (int g = 0; g < counts[0]; g++) {
                all.append(' ').append(x.since(w, g)).append(' ').append(x.price(w, g)).append(' ').append(x.chance(w, g));
            }
        }
        return all.toString();
    }

    /** Whether the tape has just so many bytes: neither end does anything then. */
    static boolean taped(RiddleRoad x, int n) {
        return !x.end(n + 1) && x.end(n);
    }

    /** A text of the road that must be wrong at this byte. */
    void wrongRoad(RiddleRoad x, String text, int at) {
        refused("road \"" + text + "\"", IllegalArgumentException.class, () -> road(x, text));
        due("the fault of road \"" + text + "\"", x.fault(), at);
    }

    void wrongLaw(RiddleRoad x, String text, int at) {
        refused("law \"" + text + "\"", IllegalArgumentException.class, () -> law(x, text));
        due("the fault of law \"" + text + "\"", x.fault(), at);
    }

    /** A test of one sentence: the document must say these words, and the test must compare something. */
    void sentence(String words, Consumer<Check> test) {
        int comparedBefore = compared;
        int wrongBefore = wrong;
        sentences.add(words);
        if (ofWords) {
            return;
        }
        if (!DOCUMENT.isEmpty() && !DOCUMENT.contains(words)) {
            wrong++;
            System.out.println("the document has no such words");
        }
        try {
            test.accept(this);
        } catch (RuntimeException e) {
            wrong++;
            System.out.println("a call threw " + e);
        }
        if (compared == comparedBefore) {
            wrong++;
            System.out.println("nothing was compared");
        }
        if (wrong > wrongBefore) {
            System.out.println("-- does not hold: " + words);
        }
    }

    /** A promise must have a test of one sentence of its own at least. */
    void promised(int promise) {
        String section = section("## Promise " + promise + ":");
        compared++;
        if (!DOCUMENT.isEmpty() && sentences.stream().noneMatch(section::contains)) {
            wrong++;
            System.out.println("no sentence of promise " + promise + " has a test");
        }
    }

    /** Where the document does not stand beside the project, the sentences are tested, but not looked up. */
    private static String read(Path file) {
        try {
            return Files.exists(file) ? Files.readString(file) : "";
        } catch (IOException e) {
            throw new UncheckedIOException(e);
        }
    }

    void close() {
        if (!sentences.isEmpty()) {
            System.out.print(sentences.size() + " sentences, ");
        }
        System.out.println(compared + " answers, " + wrong + " wrong");
        if (wrong > 0 || compared == 0) {
            System.exit(1);
        }
    }
}
