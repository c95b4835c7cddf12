/** Promises 25 to 28: chains and the questions that part them. */
public final class ChainsTest {
    private static final Class<IndexOutOfBoundsException> NO_SUCH = IndexOutOfBoundsException.class;
    private static final Class<IllegalArgumentException> WRONG = IllegalArgumentException.class;

    public static void main(String[] args) {
        Check c = new Check();
        chains(c);
        wrongChains(c);
        letters(c);
        questions(c);
        manyQuestions(c);
        fewerLetters(c);
        imageAndUndo(c);
        c.close();
    }

    private static void chains(Check c) {
        RiddleRoad x = Check.told("gate 0;gate 0");
        for (int i = 0; i < 6; i++) {
            c.due("chain " + i, Check.chain(x, "a" + (char) ('z' - i)), i);
        }
        c.due("chains", x.count(9), 6);
        c.refused("a wrong 7th", WRONG, () -> Check.chain(x, "a"));
        c.refused("a 7th", UnsupportedOperationException.class, () -> Check.chain(x, "ab"));
        c.due("the tape is used up", x.end(1), false);
        c.due("six stay", x.count(9), 6);
        c.due("forget", x.forget(), 6);
        c.due("no chains", x.count(9), 0);
        c.due("forget again", x.forget(), 0);
        c.due("the first again", Check.chain(x, "qq"), 0);
        c.due("its letter", x.letter(0, 1), 'q');
        RiddleRoad y = new RiddleRoad();
        c.due("a chain of no letters", Check.chain(y, ""), 0);
        c.due("one is counted", y.count(9), 1);
    }

    private static void wrongChains(Check c) {
        RiddleRoad x = Check.told("gate 0;gate 0");
        c.wrongRoad(x, "x", 0);
        String[] wrong = {"", "a", "abc", "aB", "a ", "1a", "a{", "`a", "a\u00e1"};
        for (String row : wrong) {
            c.refused("chain \"" + row + "\"", WRONG, () -> Check.chain(x, row));
            c.due("the tape is used up", x.end(1), false);
        }
        c.due("none is told", x.count(9), 0);
        c.due("a chain is no text with a fault", x.fault(), 0);
        c.due("az", Check.chain(x, "az"), 0);
        c.due("nor one without", x.fault(), 0);
    }

    private static void letters(Check c) {
        RiddleRoad x = Check.told("gate 0;gate 0");
        Check.chain(x, "bc");
        Check.road(x, "gate 0");
        Check.chain(x, "def");
        c.due("letter", x.letter(0, 1), 'c');
        c.due("of the other", x.letter(1, 2), 'f');
        c.due("told with fewer gates", x.letter(0, 2), -1);
        c.refused("no chain", NO_SUCH, () -> x.letter(2, 0));
        c.refused("no chain below", NO_SUCH, () -> x.letter(-1, 0));
        c.refused("no gate", NO_SUCH, () -> x.letter(0, 3));
        c.refused("no gate below", NO_SUCH, () -> x.letter(0, -1));
    }

    private static void asks(Check c, RiddleRoad x, int fewest, int first) {
        c.due("questions", x.questions(false), fewest);
        c.due("the first", x.questions(true), first);
    }

    private static void questions(Check c) {
        RiddleRoad x = Check.told("gate 0;gate 0;gate 0");
        asks(c, x, 0, -1);
        Check.chain(x, "aaa");
        asks(c, x, 0, -1);
        Check.chain(x, "aab");
        asks(c, x, 1, 2);
        Check.chain(x, "aba");
        asks(c, x, 2, 1);
        Check.chain(x, "abb");
        asks(c, x, 2, 1);
        Check.chain(x, "abc");
        asks(c, x, 2, 1);
        Check.chain(x, "aba");
        asks(c, x, -1, -1);
        x.forget();
        asks(c, x, 0, -1);
        Check.chain(x, "abc");
        Check.chain(x, "abc");
        asks(c, x, -1, -1);
    }

    /** Rows that leave one out at a time, and rows for which another gate is asked by what was told. */
    private static void manyQuestions(Check c) {
        RiddleRoad x = Check.told("gate 0;gate 0;gate 0;gate 0;gate 0");
        String[] single = {"baaaa", "abaaa", "aabaa", "aaaba", "aaaab", "aaaaa"};
        int[] due = {0, 1, 2, 3, 4, 5};
        for (int i = 0; i < 6; i++) {
            Check.chain(x, single[i]);
            c.due("questions for " + (i + 1), x.questions(false), i < 5 ? Math.min(due[i], i) : 5);
        }
        c.due("the first of several", x.questions(true), 0);
        x.forget();
        String[] tree = {"abaaa", "aabaa", "aacaa", "baaba", "baaca", "baada"};
        for (String row : tree) {
            Check.chain(x, row);
        }
        asks(c, x, 2, 0);
        x.forget();
        String[] letters = {"aaaap", "aaaaq", "aaaar", "aaaas", "aaaat", "aaaau"};
        for (String row : letters) {
            Check.chain(x, row);
        }
        asks(c, x, 1, 4);
    }

    private static void fewerLetters(Check c) {
        RiddleRoad x = Check.told("gate 0");
        Check.chain(x, "a");
        Check.road(x, "gate 0");
        Check.chain(x, "ba");
        Check.chain(x, "bb");
        asks(c, x, -1, -1);
        x.forget();
        Check.chain(x, "ba");
        Check.chain(x, "bb");
        c.due("the first, asked first", x.questions(true), 1);
        asks(c, x, 1, 1);
        RiddleRoad y = Check.told("gate 0");
        Check.chain(y, "a");
        Check.road(y, "gate 0");
        Check.chain(y, "ab");
        asks(c, y, -1, -1);
    }

    /** Going back, chains are as long as they were. */
    private static void lengths(Check c) {
        RiddleRoad x = Check.told("gate 0");
        Check.chain(x, "p");
        Check.road(x, "gate 0");
        Check.chain(x, "qr");
        x.image();
        x.forget();
        Check.chain(x, "st");
        Check.chain(x, "uv");
        c.due("they can be parted", x.questions(true), 0);
        x.back();
        c.due("short again", x.letter(0, 1), -1);
        c.due("long still", x.letter(1, 1), 'r');
        c.due("the short one's letter", x.letter(0, 0), 'p');
    }

    private static void imageAndUndo(Check c) {
        RiddleRoad x = Check.told("gate 0;walker 5 0 knows 0");
        Check.chain(x, "a");
        x.image();
        x.pass(0);
        Check.chain(x, "b");
        x.undo();
        c.due("undo leaves chains", x.count(9), 2);
        x.forget();
        Check.chain(x, "z");
        Check.chain(x, "y");
        x.back();
        c.due("the image has chains", x.count(9), 1);
        c.due("as they were", x.letter(0, 0), 'a');
        lengths(c);
        x.inn(0);
        Check.chain(x, "c");
        c.due("a chain leaves what can be undone", x.count(10), 1);
        x.forget();
        c.due("so does forgetting", x.undo(), true);
    }
}
