import java.util.NoSuchElementException;

/** Promises 7 to 11: what is told of gates and walkers, and who may pass. */
public final class LooksTest {
    private static final Class<IndexOutOfBoundsException> NO_SUCH = IndexOutOfBoundsException.class;

    public static void main(String[] args) {
        Check c = new Check();
        gates(c);
        walkers(c);
        since(c);
        prices(c);
        mayByKinds(c);
        mayByTruth(c);
        c.close();
    }

    private static void gates(Check c) {
        RiddleRoad x = Check.told("gate 1;gate 2 closed 3;gate 3;walker 9 0 knows 0 2;walker 9 0 knows 2;walker 9 0;change 2");
        c.due("all stand at 0", x.gate(0, 3), 3);
        x.pass(0);
        c.due("two stand at 0", x.gate(0, 3), 2);
        c.due("one at 1", x.gate(1, 3), 1);
        c.due("nobody at 2", x.gate(2, 3), 0);
        c.due("who have the first", x.gate(0, 4), 1);
        c.due("who have the second", x.gate(1, 4), 0);
        c.due("who have the third", x.gate(2, 4), 2);
        c.due("change of the third", x.gate(2, 5), 1);
        c.due("change of the first", x.gate(0, 5), 0);
        c.due("closed to one who is not there yet", x.gate(1, 2), 3);
        c.refused("no gate", NO_SUCH, () -> x.gate(3, 0));
        c.refused("no gate below", NO_SUCH, () -> x.gate(-1, 0));
        c.refused("no gate and no what", NO_SUCH, () -> x.gate(3, 9));
        c.refused("no what", NoSuchElementException.class, () -> x.gate(0, 6));
        c.refused("no what below", NoSuchElementException.class, () -> x.gate(0, -1));
    }

    private static void walkers(Check c) {
        RiddleRoad x = Check.told("gate 1;gate 2;walker 9 5 knows 0;walker 8 6;liar 1");
        x.pass(0);
        int[][] due = {{1, 8, 5, 1, 1, 0}, {0, 8, 6, 0, 0, 1}};
        for (int w = 0; w < 2; w++) {
            for (int what = 0; what < 6; what++) {
                c.due("walker " + w + " " + what, x.walker(w, what), due[w][what]);
            }
        }
        c.refused("no walker", NO_SUCH, () -> x.walker(2, 0));
        c.refused("no walker below", NO_SUCH, () -> x.walker(-1, 0));
        c.refused("no walker and no what", NO_SUCH, () -> x.walker(2, 6));
        c.refused("no what", NoSuchElementException.class, () -> x.walker(0, 6));
        c.refused("no what below", NoSuchElementException.class, () -> x.walker(0, -1));
    }

    private static void since(Check c) {
        RiddleRoad x = Check.told("gate 0;gate 0;walker 5 99 knows 1;change 1");
        c.due("from the first", x.since(0, 1), 0);
        c.due("not had", x.since(0, 0), -1);
        x.days(3);
        x.seed(1);
        c.due("a right guess", x.guess(0), true);
        c.due("since the guess", x.since(0, 0), 3);
        x.days(4);
        c.due("forgotten", x.since(0, 1), -1);
        c.due("not forgotten", x.since(0, 0), 3);
        c.refused("no walker", NO_SUCH, () -> x.since(1, 0));
        c.refused("no walker below", NO_SUCH, () -> x.since(-1, 0));
        c.refused("no gate", NO_SUCH, () -> x.since(0, 2));
        c.refused("no gate below", NO_SUCH, () -> x.since(0, -1));
    }

    private static void prices(Check c) {
        RiddleRoad x = Check.told("gate 0;gate 0;walker 5 0;walker 5 0;price 0 1 7;price 1 0 0");
        c.due("a price without the answer", x.price(0, 1), 7);
        c.due("not for sale", x.price(0, 0), -1);
        c.due("for nothing", x.price(1, 0), 0);
        c.due("of the other", x.price(1, 1), -1);
        c.refused("no walker", NO_SUCH, () -> x.price(2, 0));
        c.refused("no walker below", NO_SUCH, () -> x.price(-1, 0));
        c.refused("no gate", NO_SUCH, () -> x.price(0, 2));
        c.refused("no gate below", NO_SUCH, () -> x.price(0, -1));
    }

    private static void mayByKinds(Check c) {
        RiddleRoad x = Check.told("gate 0;gate 0 double 0;gate 0 blind;gate 0 singing;gate 0 closed 1;gate 0 false;gate 0 blind;"
                + "walker 0 0 knows 0 1 2 3 4 5 6;walker 0 0 knows 0 1 2 3 4 5 6;walker 0 0 knows 1 2 4;walker 0 0 knows 0 3 5");
        int[] due = {127, 111, 16, 1 + 4 + 8 + 32};
        for (int w = 0; w < 4; w++) {
            for (int g = 0; g < 7; g++) {
                c.due("may " + w + " " + g, x.may(w, g, false), (due[w] >> g & 1) == 1);
                c.due("surely may " + w + " " + g, x.may(w, g, true), (due[w] >> g & 1) == 1);
            }
        }
        Check.road(x, "gate 0;walker 0 0 knows 7;walker 0 0 knows 6");
        c.due("blind asks the new one", x.may(4, 6, false), true);
        c.due("blind asks no longer for its own", x.may(5, 6, false), false);
        c.due("not by its own", x.may(0, 6, false), false);
        c.refused("no walker", NO_SUCH, () -> x.may(6, 0, true));
        c.refused("no walker below", NO_SUCH, () -> x.may(-1, 0, true));
        c.refused("no gate", NO_SUCH, () -> x.may(0, 8, true));
        c.refused("no gate below", NO_SUCH, () -> x.may(0, -1, true));
    }

    /** All answers are bought of a liar, but those of the second. */
    private static void mayByTruth(Check c) {
        RiddleRoad x = Check.told("gate 0;gate 0;gate 0 double 1;gate 0 blind;gate 0 singing;gate 0 closed 5;gate 0 false;"
                + "walker 0 0 knows 0 1 2 3 4 5 6;walker 0 0 knows 1;liar 0;price 0 0 0;price 0 2 0");
        Check.road(x, "price 0 3 0;price 0 4 0;price 0 5 0;price 0 6 0");
        for (int g = 0; g < 7; g++) {
            if (g != 1) {
                c.due("sell " + g, x.sell(0, 1, g), 0);
            }
        }
        c.due("had", x.walker(1, 3), 127);
        c.due("true", x.walker(1, 4), 2);
        for (int g = 0; g < 7; g++) {
            c.due("may " + g, x.may(1, g, false), true);
            c.due("surely may " + g, x.may(1, g, true), g == 1 || g == 6);
            c.due("the liar surely may " + g, x.may(0, g, true), true);
        }
    }
}
