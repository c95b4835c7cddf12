/** Promises 14 to 16 and 19: guesses, sales, inns and the seed. */
public final class TradeTest {
    private static final Class<IndexOutOfBoundsException> NO_SUCH = IndexOutOfBoundsException.class;
    private static final Class<IllegalStateException> REFUSED = IllegalStateException.class;

    public static void main(String[] args) {
        Check c = new Check();
        draws(c);
        guesses(c);
        seeds(c);
        sales(c);
        lies(c);
        refusedSales(c);
        noSuchSales(c);
        inns(c);
        c.close();
    }

    /** The draws of a seed, by long numbers. */
    private static int[] drawsFrom(int seed, int size) {
        int[] draws = new int[size];
        int now = seed;
        for (int i = 0; i < size; i++) {
            now = (int) (1103515245L * now + 12345L);
            draws[i] = (int) ((now & 0xffffffffL) >> 16) & 0x7fff;
        }
        return draws;
    }

    private static void draws(Check c) {
        int[] seeds = {1, 0, -1, 77, Integer.MIN_VALUE, Integer.MAX_VALUE, 123456789};
        for (int seed : seeds) {
            RiddleRoad x = Check.told("gate 0;walker 500 50");
            x.seed(seed);
            int[] draws = drawsFrom(seed, 30);
            int lost = 0;
            for (int draw : draws) {
                boolean right = draw % 100 < 50;
                lost += right ? 0 : 1;
                c.due("guess from seed " + seed, x.guess(0), right);
                c.due("coins", x.walker(0, 1), 500 - lost);
                c.due("chest", x.count(7), lost);
            }
        }
    }

    private static void guesses(Check c) {
        RiddleRoad x = Check.told("gate 0;gate 0;walker 1 39 knows 0;walker 9 0;walker 5 38;liar 0;price 0 0 0");
        x.days(1);
        c.due("38 is below 39", x.guess(0), true);
        c.due("since this day", x.since(0, 0), 1);
        x.seed(1);
        c.due("38 is not below 38", x.guess(2), false);
        c.due("a coin goes", x.walker(2, 1), 4);
        c.due("to the chest", x.count(7), 1);
        c.due("nothing is had", x.walker(2, 3), 0);
        x.seed(1);
        c.due("no chance", x.guess(1), false);
        x.sell(0, 2, 0);
        c.due("a lie is had", x.walker(2, 4), 0);
        Check.law(x, "hard 0");
        x.seed(2);
        int[] draws = drawsFrom(2, 20);
        for (int draw : draws) {
            c.due("guess", x.guess(2), draw % 100 < 38);
        }
        c.due("the truth in place of it", x.walker(2, 4), 1);
        c.due("no coins below 0", x.walker(2, 1), 0);
        c.due("the chest has no more", x.count(7), 6);
        c.due("coins of all and the chest", x.count(7) + x.count(8), 15);
        x.pass(0);
        x.seed(1);
        c.due("a guess at the next gate", x.guess(0), true);
        c.due("its answer", x.walker(0, 3), 3);
        x.pass(0);
        c.refused("behind the last gate", REFUSED, () -> x.guess(0));
        c.refused("no walker", NO_SUCH, () -> x.guess(3));
        c.refused("no walker below", NO_SUCH, () -> x.guess(-1));
    }

    private static void seeds(Check c) {
        RiddleRoad x = Check.told("gate 0;walker 5 50");
        c.due("the first seed", x.seed(-7), 1);
        c.due("what it was", x.seed(Integer.MIN_VALUE), -7);
        c.due("the lowest", x.seed(1), Integer.MIN_VALUE);
        x.guess(0);
        c.due("after a draw", x.seed(1), 1103515245 + 12345);
        c.due("no act", x.count(10), 1);
    }

    private static RiddleRoad market() {
        return Check.told("gate 0;gate 0;walker 10 0 knows 0 1;walker 7 0;walker 9999 0 knows 1;"
                + "price 0 0 7;price 0 1 8;price 2 1 1;price 1 1 0");
    }

    private static void sales(Check c) {
        RiddleRoad x = market();
        x.days(4);
        c.due("the price", x.sell(0, 1, 0), 7);
        c.due("coins of the seller", x.walker(0, 1), 17);
        c.due("coins of the buyer", x.walker(1, 1), 0);
        c.due("had", x.walker(1, 3), 1);
        c.due("true", x.walker(1, 4), 1);
        c.due("since this day", x.since(1, 0), 4);
        c.due("the seller's stays", x.since(0, 0), 0);
        c.due("of another gate", x.since(1, 1), -1);
    }

    private static void lies(Check c) {
        RiddleRoad x = Check.told("gate 0;walker 5 0 knows 0;walker 5 0;walker 5 0;walker 5 0;"
                + "price 0 0 1;price 1 0 1;price 2 0 1;liar 1");
        x.sell(0, 1, 0);
        c.due("a liar buys the truth", x.walker(1, 4), 1);
        x.sell(1, 2, 0);
        c.due("and sells a lie", x.walker(2, 4), 0);
        c.due("that is had", x.walker(2, 3), 1);
        x.sell(2, 3, 0);
        c.due("that goes on as a lie", x.walker(3, 4), 0);
        c.due("the liar knows the truth", x.walker(1, 4), 1);
    }

    private static void refusedSales(Check c) {
        RiddleRoad x = market();
        c.refused("one too few coins", REFUSED, () -> x.sell(0, 1, 1));
        c.refused("not had by the seller", REFUSED, () -> x.sell(1, 0, 1));
        c.refused("no price", REFUSED, () -> x.sell(2, 1, 0));
        c.refused("the buyer has it", REFUSED, () -> x.sell(0, 2, 1));
        c.refused("too many coins of the seller", REFUSED, () -> x.sell(2, 1, 1));
        c.due("nothing was done", x.count(10), 0);
        c.due("no coins went", x.walker(2, 1), 9999);
        x.sell(0, 2, 0);
        c.due("now there is room", x.sell(2, 1, 1), 1);
        c.due("coins", x.walker(2, 1), 9993);
        RiddleRoad y = Check.told("gate 0;walker 9998 0 knows 0;walker 2 0;price 0 0 1");
        c.due("up to 9999", y.sell(0, 1, 0), 1);
        c.due("just so many", y.walker(0, 1), 9999);
    }

    private static void noSuchSales(Check c) {
        RiddleRoad x = market();
        c.refused("no seller", NO_SUCH, () -> x.sell(3, 0, 0));
        c.refused("no seller below", NO_SUCH, () -> x.sell(-1, 0, 0));
        c.refused("no buyer", NO_SUCH, () -> x.sell(0, 3, 0));
        c.refused("no buyer below", NO_SUCH, () -> x.sell(0, -1, 0));
        c.refused("no gate", NO_SUCH, () -> x.sell(0, 1, 2));
        c.refused("no gate below", NO_SUCH, () -> x.sell(0, 1, -1));
        c.refused("both are one", IllegalArgumentException.class, () -> x.sell(0, 0, 0));
        c.refused("both are one, who has it not", IllegalArgumentException.class, () -> x.sell(1, 1, 0));
        c.refused("both are one, and no gate", NO_SUCH, () -> x.sell(0, 0, 2));
        c.refused("both are none", NO_SUCH, () -> x.sell(3, 3, 0));
    }

    private static void inns(Check c) {
        RiddleRoad x = Check.told("gate 0;gate 0;gate 0;walker 5 0 knows 0;walker 5 0 knows 1;walker 5 0;walker 5 0 knows 2;"
                + "liar 1;price 1 1 0;price 0 0 0");
        x.days(2);
        x.sell(1, 2, 1);
        c.due("a lie", x.walker(2, 4), 0);
        c.due("an inn of one", x.inn(4), 0);
        c.due("an inn of none", x.inn(0), 0);
        c.due("an inn of none that are", x.inn(-16), 0);
        c.due("two meet", x.inn(5), 2);
        c.due("all of both", x.walker(0, 3), 3);
        c.due("the lie is told", x.walker(0, 4), 1);
        c.due("and the truth", x.walker(2, 4), 1);
        c.due("since this day", x.since(2, 0), 2);
        c.due("as it was", x.since(0, 0), 0);
        c.due("one who was not there", x.walker(3, 3), 4);
        c.due("one who stayed away", x.walker(1, 3), 2);
        x.days(1);
        c.due("all meet", x.inn(-1), 6);
        c.due("all have all", x.count(12), 4 * 3);
        c.due("the truth of one is told to others", x.walker(3, 4), 7);
        c.due("one keeps the lie", x.walker(0, 4), 5);
        c.due("its day stays", x.since(0, 1), 2);
        c.due("a new one's day", x.since(3, 1), 3);
        RiddleRoad y = Check.told("gate 0;walker 5 0 knows 0;walker 5 0;walker 5 0;liar 0;price 0 0 0");
        y.sell(0, 1, 0);
        c.due("a lie alone is told", y.inn(6), 1);
        c.due("and stays a lie", y.walker(2, 4), 0);
        c.due("again", x.inn(15), 0);
        c.due("all inns are remembered", x.count(10), 2);
    }
}
