/** Promises 1 to 3: a new object, the tape and its end. */
public final class TapeTest {
    public static void main(String[] args) {
        Check c = new Check();
        newObject(c);
        feed(c);
        end(c);
        c.close();
    }

    private static void newObject(Check c) {
        RiddleRoad x = new RiddleRoad();
        int[] due = {0, 0, 0, -1, 0, 0, 0, 0, 0, 0, 0, 0, 0};
        for (int what = 0; what < due.length; what++) {
            c.due("count " + what + " of a new object", x.count(what), due[what]);
        }
        c.due("NONE", RiddleRoad.NONE, -1);
        c.due("fault of a new object", x.fault(), -1);
        c.due("undo of a new object", x.undo(), false);
        c.due("back of a new object", x.back(), false);
        c.due("seed of a new object", x.seed(5), 1);
        c.due("the tape of a new object", x.end(1), false);
        c.due("questions of a new object", x.questions(false), 0);
        c.due("forget of a new object", x.forget(), 0);
    }

    private static void feed(Check c) {
        RiddleRoad x = new RiddleRoad();
        for (int n = 20; n <= 400; n += 20) {
            c.due("feed", x.feed(1, 2, 3, 4, 5), n);
        }
        c.due("feed of a full tape", x.feed(1, 2, 3, 4, 5), -1);
        c.due("the tape stays", x.end(400), true);
        c.due("a byte away", x.end(381), true);
        c.due("feed beyond 400", x.feed(1, 2, 3, 4, 5), -1);
        c.due("nothing came", x.end(382), false);
        c.due("twenty away", x.end(380), true);
        c.due("feed up to 400", x.feed(1, 2, 3, 4, 5), 400);
        order(c);
    }

    /** The highest byte of each number is the first. */
    private static void order(Check c) {
        RiddleRoad x = Check.told("gate 0;gate 0;gate 0;gate 0;gate 0;gate 0");
        x.feed('a' << 24 | 'b' << 16 | 'c' << 8 | 'd', 'e' << 24 | 'f' << 16 | 'g' << 8 | 'h', 0, 0, 0);
        x.end(6);
        x.chain();
        for (int g = 0; g < 6; g++) {
            c.due("byte " + g, x.letter(0, g), 'a' + g);
        }
        x.feed('p' << 24 | 'q' << 16, 0, 0, 0, 0);
        x.end(2);
        x.feed('r' << 24 | 's' << 16 | 't' << 8 | 'u', 0, 0, 0, 0);
        x.end(6);
        x.chain();
        c.due("behind the tape", x.letter(1, 2), 'r');
        c.due("ahead of that", x.letter(1, 1), 'q');
        allFive(c);
        highBytes(c);
    }

    private static void allFive(Check c) {
        RiddleRoad x = new RiddleRoad();
        Check.put(x, "gate 0;gate 0;gate 10");
        c.due("five numbers make a text", x.road(), 1);
        c.due("gates from five numbers", x.count(0), 3);
        c.due("the last number", x.gate(2, 1), 10);
    }

    private static void highBytes(Check c) {
        RiddleRoad x = new RiddleRoad();
        c.wrongRoad(x, "still \u00ff", 6);
        c.wrongRoad(x, "\u0080", 0);
    }

    private static void end(Check c) {
        RiddleRoad x = new RiddleRoad();
        c.due("end of nothing", x.end(0), true);
        c.due("end below 0", x.end(-1), false);
        c.due("end beyond", x.end(1), false);
        x.feed(0, 0, 0, 0, 0);
        c.due("end at all", x.end(20), true);
        c.due("end beyond all", x.end(21), false);
        c.due("end within", x.end(7), true);
        c.due("end beyond the new end", x.end(8), false);
        c.due("end of the highest", x.end(Integer.MAX_VALUE), false);
        c.due("end of the lowest", x.end(Integer.MIN_VALUE), false);
        c.due("the tape still has seven", x.end(7), true);
        c.due("feed behind the end", x.feed(0, 0, 0, 0, 0), 27);
    }
}
