import java.util.Arrays;

/** Promises 32 to 34: acts undone, and the image. */
public final class UndoTest {
    private static final String ROAD = "gate 1;gate 1 singing;gate 1;walker 9 99 knows 0;walker 9 0 knows 1;walker 9 0 knows 2;"
            + "price 1 1 2;price 2 2 3";

    public static void main(String[] args) {
        Check c = new Check();
        eachAct(c);
        all(c);
        twelve(c);
        whatForgets(c);
        image(c);
        imageOfAll(c);
        c.close();
    }

    private static void eachAct(Check c) {
        RiddleRoad x = Check.told(ROAD);
        c.due("nothing yet", x.undo(), false);
        x.pass(0);
        c.due("a pass", x.count(10), 1);
        x.sell(1, 0, 1);
        c.due("a sale", x.count(10), 2);
        x.guess(0);
        c.due("a guess", x.count(10), 3);
        x.inn(6);
        c.due("an inn", x.count(10), 4);
        x.inn(6);
        c.due("an inn by which nothing came", x.count(10), 5);
        x.undo();
        c.due("told still", x.walker(1, 3), 6);
        x.undo();
        c.due("not told yet", x.walker(1, 3), 2);
        c.due("the seed goes back with a guess", ahead(x), 1);
        c.due("bought still", x.walker(0, 3), 3);
        c.due("sold for", x.walker(1, 1), 11);
        x.undo();
        c.due("not bought yet", x.walker(0, 3), 1);
        c.due("not paid yet", x.walker(1, 1), 9);
        c.due("one passed", x.walker(0, 0), 1);
        c.due("toll", x.count(7), 1);
        x.undo();
        c.due("one did not pass", x.walker(0, 0), 0);
        c.due("no toll", x.count(7), 0);
        c.due("coins", x.walker(0, 1), 9);
        c.due("nothing more", x.undo(), false);
        c.due("nothing to be undone", x.count(10), 0);
    }

    /** Undoes a guess: the seed ahead of it. */
    private static int ahead(RiddleRoad x) {
        x.undo();
        int seed = x.seed(0);
        x.seed(seed);
        return seed;
    }

    /** Also what came between acts goes back. */
    private static void all(Check c) {
        RiddleRoad x = Check.told(ROAD);
        x.pass(0);
        x.inn(0);
        x.walkBack(0);
        x.seed(99);
        x.undo();
        c.due("the walk back is undone", x.walker(0, 0), 1);
        c.due("so is the seed", x.seed(1), 1);
        c.wrongRoad(x, "x", 0);
        Check.put(x, "abc");
        x.undo();
        c.due("the tape stays", x.end(3), true);
        c.due("the fault stays", x.fault(), 0);
        RiddleRoad y = Check.told("gate 0;gate 0;walker 5 0 knows 0;walker 5 0;price 0 0 1;liar 0");
        y.sell(0, 1, 0);
        y.pass(1);
        c.due("caught", y.walker(1, 3), 0);
        c.due("being caught is undone", y.undo(), true);
        c.due("the lie is back", y.walker(1, 3), 1);
        c.due("and false", y.walker(1, 4), 0);
        c.due("its day", y.since(1, 0), 0);
    }

    private static void twelve(Check c) {
        RiddleRoad x = Check.told("gate 0;walker 99 0;walker 99 0");
        for (int i = 1; i <= 30; i++) {
            x.guess(0);
            c.due("remembered", x.count(10), Math.min(i, 12));
            c.due("lost", x.count(7), i);
        }
        for (int i = 1; i <= 12; i++) {
            c.due("undo " + i, x.undo(), true);
            c.due("lost after undo " + i, x.count(7), 30 - i);
            c.due("left", x.count(10), 12 - i);
        }
        c.due("no 13th", x.undo(), false);
        c.due("lost", x.count(7), 18);
        x.guess(1);
        x.guess(1);
        x.undo();
        x.guess(0);
        c.due("two are remembered", x.count(10), 2);
        x.undo();
        x.undo();
        c.due("lost as before", x.count(7), 18);
    }

    private static void whatForgets(Check c) {
        RiddleRoad x = Check.told(ROAD);
        x.inn(0);
        x.inn(0);
        x.walkBack(0);
        x.seed(3);
        x.image();
        x.cheapest(0, 0, true);
        c.due("these forget nothing", x.count(10), 2);
        c.refused("a refused pass", IllegalStateException.class, () -> x.pass(1));
        c.refused("days refused", IllegalArgumentException.class, () -> x.days(0));
        c.due("nor what is refused", x.count(10), 2);
        x.days(1);
        c.due("a day does", x.undo(), false);
        x.inn(0);
        x.live(1);
        c.due("a drawn day does", x.undo(), false);
        x.inn(0);
        Check.road(x, "");
        c.due("a text does", x.undo(), false);
        x.inn(0);
        Check.law(x, "");
        c.due("a law does", x.undo(), false);
        x.inn(0);
        x.back();
        c.due("going back does", x.undo(), false);
    }

    private static void image(Check c) {
        RiddleRoad x = new RiddleRoad();
        c.due("no image", x.back(), false);
        x.inn(0);
        c.due("no image, and nothing happens", x.back(), false);
        c.due("still remembered", x.count(10), 1);
        x.image();
        Check.road(x, ROAD);
        c.due("back to nothing", x.back(), true);
        c.due("no gates", x.count(0), 0);
        c.due("no walkers", x.count(1), 0);
        c.due("no texts", x.count(2), 0);
        Check.road(x, ROAD);
        x.image();
        x.pass(0);
        c.due("back again", x.back(), true);
        c.due("not passed", x.walker(0, 0), 0);
        x.pass(0);
        x.inn(3);
        x.pass(0);
        c.due("and once more", x.back(), true);
        c.due("not passed either", x.walker(0, 0), 0);
        c.wrongRoad(x, "still;x", 6);
        Check.put(x, "abcd");
        x.back();
        c.due("the fault stays", x.fault(), 6);
        c.due("the tape stays", x.end(4), true);
        c.due("and has no more", x.end(5), false);
    }

    private static void imageOfAll(Check c) {
        RiddleRoad x = Check.told(ROAD + ";wear 5;change 1");
        Check.law(x, "hard 3;hard 4");
        x.seed(42);
        x.live(2);
        int[] counts = counts(x);
        int[] walkers = walkers(x);
        int seed = x.seed(0);
        x.seed(seed);
        x.image();
        Check.road(x, "gate 9;walker 1 1;liar 0;price 0 0 9;wear 9;still");
        Check.law(x, "never");
        x.live(9);
        x.seed(7);
        c.due("back", x.back(), true);
        c.due("what counts", Arrays.toString(counts(x)), Arrays.toString(counts));
        c.due("walkers", Arrays.toString(walkers(x)), Arrays.toString(walkers));
        c.due("chance by the law", x.chance(0, 0), 92);
        c.due("price", x.price(0, 0), -1);
        c.due("the seed", x.seed(0), seed);
        Check.road(x, "gate 5 closed 2;walker 1 2");
        c.due("a new gate", x.gate(3, 2), 2);
        c.due("of a new walker nothing is left from before", x.walker(3, 0) + x.walker(3, 3) + x.walker(3, 5), 0);
    }

    private static int[] counts(RiddleRoad x) {
        int[] counts = new int[13];
        for (int what = 0; what < 13; what++) {
            counts[what] = x.count(what);
        }
        return counts;
    }

    private static int[] walkers(RiddleRoad x) {
        int[] all = new int[3 * 9];
        for (int w = 0; w < 3; w++) {
            for (int i = 0; i < 9; i++) {
                all[9 * w + i] = i < 6 ? x.walker(w, i) : x.since(w, i - 6);
            }
        }
        return all;
    }
}
