/** Promises 13 and 17: passes, those who are caught, singing gates, and the walk back. */
public final class PassTest {
    private static final Class<IndexOutOfBoundsException> NO_SUCH = IndexOutOfBoundsException.class;
    private static final Class<IllegalStateException> REFUSED = IllegalStateException.class;

    public static void main(String[] args) {
        Check c = new Check();
        tolls(c);
        caughtAtPlain(c);
        caughtAtDouble(c);
        caughtAtBlind(c);
        falseGate(c);
        singing(c);
        walkBack(c);
        c.close();
    }

    private static void tolls(Check c) {
        RiddleRoad x = Check.told("gate 3;gate 2;gate 0 closed 0;walker 5 0 knows 0 1 2;walker 2 0 knows 0;walker 9 0");
        c.due("pass", x.pass(0), 1);
        c.due("coins", x.walker(0, 1), 2);
        c.due("chest", x.count(7), 3);
        c.due("pass with the last coins", x.pass(0), 2);
        c.due("no coins", x.walker(0, 1), 0);
        c.due("chest of both", x.count(7), 5);
        c.refused("closed", REFUSED, () -> x.pass(0));
        c.refused("too few coins", REFUSED, () -> x.pass(1));
        c.refused("no answer", REFUSED, () -> x.pass(2));
        c.due("nothing was done", x.count(10), 2);
        c.due("no toll was taken", x.count(7), 5);
        c.refused("no walker", NO_SUCH, () -> x.pass(3));
        c.refused("no walker below", NO_SUCH, () -> x.pass(-1));
        Check.road(x, "walker 9 0 knows 0 1 2");
        x.pass(3);
        x.pass(3);
        c.due("not closed to another", x.pass(3), 3);
        c.due("behind the last", x.count(11), 1);
        c.refused("behind the last gate", REFUSED, () -> x.pass(3));
        Check.road(x, "gate 1;walker 0 0 knows 3");
        c.refused("a new gate behind", REFUSED, () -> x.pass(3));
        c.due("one stands at it", x.gate(3, 3), 1);
    }

    /** One honest walker 0, one liar 1, who sells all to walker 2 for nothing. */
    private static RiddleRoad lies(String gates) {
        RiddleRoad x = Check.told(gates + ";walker 9 0 knows 0 1 2;walker 9 0 knows 0 1 2;walker 9 0;liar 1");
        for (int w = 0; w < 2; w++) {
            for (int g = 0; g < 3; g++) {
                Check.road(x, "price " + w + " " + g + " 0");
            }
        }
        return x;
    }

    private static void caughtAtPlain(Check c) {
        RiddleRoad x = lies("gate 1;gate 2;gate 3");
        x.sell(0, 2, 0);
        x.sell(1, 2, 1);
        x.sell(1, 2, 2);
        c.due("a true answer", x.pass(2), 1);
        c.due("caught", x.pass(2), 0);
        c.due("the toll is paid", x.walker(2, 1), 6);
        c.due("to the chest", x.count(7), 3);
        c.due("the false one is forgotten", x.walker(2, 3), 5);
        c.due("the true one is left", x.walker(2, 4), 1);
        c.due("no day of it", x.since(2, 1), -1);
    }

    private static void caughtAtDouble(Check c) {
        RiddleRoad x = lies("gate 1;gate 1;gate 2 double 0");
        x.sell(0, 2, 0);
        x.sell(0, 2, 1);
        x.sell(1, 2, 2);
        x.pass(2);
        x.pass(2);
        c.due("caught by its own", x.pass(2), 0);
        c.due("the other one stays", x.walker(2, 3), 3);
        RiddleRoad y = lies("gate 0 false;gate 0;gate 0 double 0");
        y.sell(1, 2, 0);
        y.sell(0, 2, 1);
        y.sell(1, 2, 2);
        y.pass(2);
        y.pass(2);
        c.due("caught by both", y.pass(2), 0);
        c.due("both are forgotten", y.walker(2, 3), 2);
        RiddleRoad z = lies("gate 0 false;gate 0;gate 0 double 0");
        z.sell(1, 2, 0);
        z.sell(0, 2, 1);
        z.sell(0, 2, 2);
        z.pass(2);
        z.pass(2);
        c.due("caught by the other", z.pass(2), 0);
        c.due("its own stays", z.walker(2, 3), 6);
        c.due("and is true", z.walker(2, 4), 6);
    }

    private static void caughtAtBlind(Check c) {
        RiddleRoad x = lies("gate 0 blind;gate 0;gate 0");
        x.sell(1, 2, 0);
        x.sell(1, 2, 1);
        c.due("caught by the one behind", x.pass(2), 0);
        c.due("that one is forgotten", x.walker(2, 3), 1);
        x.sell(0, 2, 1);
        c.due("its own is not asked", x.pass(2), 1);
        c.due("its own stays", x.walker(2, 3), 3);
    }

    private static void falseGate(Check c) {
        RiddleRoad x = lies("gate 4 false;gate 0;gate 0");
        x.sell(1, 2, 0);
        c.due("opens to a lie", x.pass(2), 1);
        c.due("the lie stays", x.walker(2, 3), 1);
        c.due("the toll is paid", x.count(7), 4);
        c.due("opens to the truth", x.pass(0), 1);
    }

    private static void singing(Check c) {
        RiddleRoad x = lies("gate 0 singing;gate 0 singing;gate 0");
        Check.road(x, "walker 0 0;walker 0 0");
        x.days(2);
        x.sell(1, 3, 0);
        x.sell(1, 2, 0);
        c.due("caught at a singing gate", x.pass(2), 0);
        c.due("nobody hears", x.walker(4, 3), 0);
        x.walkBack(0);
        c.due("it opens", x.pass(0), 1);
        c.due("one hears", x.walker(4, 3), 1);
        c.due("the truth", x.walker(4, 4), 1);
        c.due("since this day", x.since(4, 0), 2);
        c.due("one keeps the lie", x.walker(3, 4), 0);
        c.due("one hears again", x.walker(2, 4), 1);
        c.due("as it was", x.since(1, 0), 0);
        x.pass(4);
        Check.road(x, "walker 0 0");
        c.due("it opens again", x.pass(2), 1);
        c.due("a new one hears", x.walker(5, 3), 1);
        x.pass(0);
        c.due("only those who are there hear", x.walker(3, 3), 1);
        c.due("one beside hears the second", x.walker(4, 3), 3);
        c.due("one who passed hears the second", x.walker(2, 3), 3);
    }

    private static void walkBack(Check c) {
        RiddleRoad x = Check.told("gate 0;gate 0;walker 0 0 knows 0 1");
        c.due("0 at least", x.walkBack(0), 0);
        x.pass(0);
        x.pass(0);
        c.due("back from behind all", x.walkBack(0), 1);
        c.due("one is there", x.walker(0, 0), 1);
        c.due("back to the first", x.walkBack(0), 0);
        c.due("no act to be undone", x.count(10), 2);
        c.refused("no walker", NO_SUCH, () -> x.walkBack(1));
        c.refused("no walker below", NO_SUCH, () -> x.walkBack(-1));
    }
}
