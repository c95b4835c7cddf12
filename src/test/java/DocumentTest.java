import java.util.regex.Matcher;
import java.util.regex.Pattern;

/** From the first line of the document to the last: no words of it may be without a test of their own. */
public final class DocumentTest {
    // What is free cannot be tested, and is not.
    private static final String[] FREE = {
        "How the state is held inside the object is free, as are the speed of each call, the text of toString "
                + "and the behaviour of equals and hashCode.",
        "Use of one object from several threads at once is not promised to be safe.",
        ", and nothing about an object after its 512th call."};
    private static final String TAKEN_AWAY = "\u0000";
    private static final Pattern WORDS = Pattern.compile("[^\u0000]*[A-Za-z][^\u0000]*");

    public static void main(String[] args) {
        Check words = Check.ofWords();
        StoryTest.sentences(words);
        EdgeRoadTest.sentences(words);
        EdgeTextTest.sentences(words);
        EdgeActsTest.sentences(words);
        EdgePlansTest.sentences(words);
        EdgeCallsTest.sentences(words);
        RefusedTest.sentences(words);
        String rest = Check.document();
        for (String free : FREE) {
            rest = rest.replace(free, TAKEN_AWAY);
        }
        rest = without(withoutFace(rest), words);
        int untested = 0;
        Matcher left = WORDS.matcher(rest);
        while (left.find()) {
            untested++;
            System.out.println("without a test: " + left.group().strip());
        }
        System.out.println(words.sentences().size() + " sentences, " + untested + " pieces without a test");
        System.exit(untested > 0 ? 1 : 0);
    }

    /** The face and the calls that head the promises are looked at by FaceTest. */
    private static String withoutFace(String document) {
        return document.replaceAll("(?s)```java.*?```", TAKEN_AWAY)
                .replaceAll("(?m)^`[a-z][^`]*\\)[^`]*`:", TAKEN_AWAY)
                .replaceAll("(?m)^#.*$", TAKEN_AWAY)
                .replaceAll("(?m)^```text$", TAKEN_AWAY);
    }

    /** Pieces of the document are told apart by where they stand: a sentence may be a part of another one. */
    private static String without(String document, Check words) {
        boolean[] told = new boolean[document.length()];
        for (String sentence : words.sentences()) {
            String piece = withoutFace(sentence);
            for (int at = document.indexOf(piece); at >= 0; at = document.indexOf(piece, at + 1)) {
                for (int i = 0; i < piece.length(); i++) {
                    told[at + i] = true;
                }
            }
        }
        StringBuilder rest = new StringBuilder();
        for (int i = 0; i < document.length(); i++) {
            rest.append(told[i] ? TAKEN_AWAY : document.substring(i, i + 1));
        }
        return rest.toString();
    }
}
