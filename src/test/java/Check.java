import java.nio.charset.StandardCharsets;

/** What all tests share: compared answers, and texts put on the tape. */
final class Check {
    interface Call {
        long answer();
    }

    interface Deed {
        void run();
    }

    private int compared = 0;
    private int wrong = 0;

    void due(String what, long got, long want) {
        compared++;
        if (got != want) {
            wrong++;
            System.out.println(what + " answered " + got + ", due is " + want);
        }
    }

    void due(String what, boolean got, boolean want) {
        due(what, got ? 1 : 0, want ? 1 : 0);
    }

    void due(String what, String got, String want) {
        compared++;
        if (!got.equals(want)) {
            wrong++;
            System.out.println(what + " answered " + got + ", due is " + want);
        }
    }

    /** The exception must be of just this class: the machine's own ones are of classes below the document's. */
    void refused(String what, Class<? extends RuntimeException> kind, Deed deed) {
        due(what, kindThrown(deed), kind.getName());
    }

    private static String kindThrown(Deed deed) {
        try {
            deed.run();
            return "nothing";
        } catch (RuntimeException e) {
            return e.getClass().getName();
        }
    }

    /** Puts a text on the tape that is empty: bytes are told by their numbers as in Latin 1. */
    static void put(RiddleRoad x, String text) {
        byte[] bytes = text.getBytes(StandardCharsets.ISO_8859_1);
        for (int from = 0; from < bytes.length; from += 20) {
            int[] numbers = new int[5];
            for (int i = 0; i < 20; i++) {
                int b = from + i < bytes.length ? bytes[from + i] & 255 : 0;
                numbers[i / 4] = numbers[i / 4] << 8 | b;
            }
            x.feed(numbers[0], numbers[1], numbers[2], numbers[3], numbers[4]);
        }
        x.end(bytes.length);
    }

    static int road(RiddleRoad x, String text) {
        put(x, text);
        return x.road();
    }

    static int law(RiddleRoad x, String text) {
        put(x, text);
        return x.law();
    }

    static int chain(RiddleRoad x, String text) {
        put(x, text);
        return x.chain();
    }

    static int lie(RiddleRoad x, String text, int e) {
        put(x, text);
        return x.lie(e);
    }

    static RiddleRoad told(String text) {
        RiddleRoad x = new RiddleRoad();
        road(x, text);
        return x;
    }

    /** A text of the road that must be wrong at this byte. */
    void wrongRoad(RiddleRoad x, String text, int at) {
        refused("road \"" + text + "\"", IllegalArgumentException.class, () -> road(x, text));
        due("the fault of road \"" + text + "\"", x.fault(), at);
    }

    void wrongLaw(RiddleRoad x, String text, int at) {
        refused("law \"" + text + "\"", IllegalArgumentException.class, () -> law(x, text));
        due("the fault of law \"" + text + "\"", x.fault(), at);
    }

    void close() {
        System.out.println(compared + " answers, " + wrong + " wrong");
        if (wrong > 0 || compared == 0) {
            System.exit(1);
        }
    }
}
