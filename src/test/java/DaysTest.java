/** Promises 18 and 31: days, change and wear, and days by draws. */
public final class DaysTest {
    public static void main(String[] args) {
        Check c = new Check();
        days(c);
        wear(c);
        change(c);
        both(c);
        drawnPasses(c);
        drawnGuesses(c);
        drawnSales(c);
        caughtAndBack(c);
        wrongDays(c);
        c.close();
    }

    private static void days(Check c) {
        RiddleRoad x = Check.told("gate 0;walker 0 0 knows 0");
        x.inn(1);
        c.due("a day", x.days(1), 1);
        c.due("nothing to be undone", x.undo(), false);
        c.due("99 more", x.days(99), 100);
        c.due("the day", x.count(4), 100);
        c.due("never forgotten without wear", x.walker(0, 3), 1);
    }

    private static void wear(Check c) {
        RiddleRoad x = Check.told("gate 0;gate 0;walker 5 99 knows 1;wear 2");
        x.days(1);
        x.seed(1);
        x.guess(0);
        x.days(1);
        c.due("had for two days", x.walker(0, 3), 3);
        x.days(1);
        c.due("had for three days", x.walker(0, 3), 1);
        c.due("nor true", x.walker(0, 4), 1);
        x.days(1);
        c.due("all worn off", x.walker(0, 3), 0);
        RiddleRoad y = Check.told("gate 0;walker 0 0 knows 0;walker 0 0 knows 0;wear 99");
        y.days(99);
        c.due("had for 99 days", y.walker(1, 3), 1);
        y.days(1);
        c.due("had for 100 days", y.walker(1, 3), 0);
        RiddleRoad v = Check.told("gate 0;walker 0 0 knows 0;wear 1");
        v.days(1);
        c.due("had for one day", v.walker(0, 3), 1);
        v.days(1);
        c.due("had for more than one", v.walker(0, 3), 0);
        RiddleRoad z = Check.told("gate 0;walker 0 0 knows 0");
        z.days(50);
        Check.road(z, "wear 50");
        c.due("wear takes nothing by itself", z.walker(0, 3), 1);
        z.days(1);
        c.due("a day more does", z.walker(0, 3), 0);
    }

    private static void change(Check c) {
        RiddleRoad x = Check.told("gate 0;gate 0;gate 0;walker 0 0 knows 0 1 2;walker 0 0 knows 1;walker 0 0 knows 2;change 0 2");
        x.days(6);
        c.due("day 6", x.walker(0, 3), 7);
        x.days(1);
        c.due("day 7", x.walker(0, 3), 2);
        c.due("nor true", x.walker(0, 4), 2);
        c.due("of another", x.walker(1, 3), 2);
        c.due("of a third", x.walker(2, 3), 0);
        Check.road(x, "walker 0 0 knows 0");
        x.days(6);
        c.due("day 13", x.walker(3, 3), 1);
        Check.road(x, "still");
        x.days(1);
        c.due("day 14 without change", x.walker(3, 3), 1);
    }

    private static void both(Check c) {
        RiddleRoad x = Check.told("gate 0;gate 0;walker 0 0 knows 0 1;wear 6;change 0");
        x.days(6);
        c.due("day 6", x.walker(0, 3), 3);
        x.days(1);
        c.due("day 7", x.walker(0, 3), 0);
    }

    private static void drawnPasses(Check c) {
        RiddleRoad x = Check.told("gate 1;gate 2;walker 9 99 knows 0 1;walker 9 0;walker 0 0 knows 0");
        x.inn(0);
        c.due("one passes", x.live(1), 1);
        c.due("nothing to be undone", x.count(10), 0);
        c.due("a day more", x.count(4), 1);
        c.due("one is at 1", x.walker(0, 0), 1);
        c.due("one has nothing", x.walker(1, 0), 0);
        c.due("one cannot pay", x.walker(2, 0), 0);
        c.due("no draw was needed", x.seed(1), 1);
        c.due("then at 2, then no more", x.live(5), 1);
        c.due("the chest", x.count(7), 3);
        c.due("coins", x.count(8), 15);
        c.due("the day", x.count(4), 6);
    }

    /** Two by numbers, of whom the first is right with 38 and the second's draws come behind. */
    private static void drawnGuesses(Check c) {
        RiddleRoad x = Check.told("gate 0;gate 0 closed 0;walker 9 39;walker 9 1;walker 9 0");
        c.due("no pass yet", x.live(1), 0);
        c.due("right", x.walker(0, 3), 1);
        c.due("on day 0", x.since(0, 0), 0);
        c.due("wrong", x.walker(1, 1), 8);
        c.due("one without an ear", x.walker(2, 1), 9);
        c.due("chest", x.count(7), 1);
        int seed = 1;
        seed = 1103515245 * seed + 12345;
        seed = 1103515245 * seed + 12345;
        c.due("two draws", x.seed(seed), seed);
        c.due("one passes then", x.live(1), 1);
        RiddleRoad y = Check.told("gate 0 closed 0;walker 99 1 knows 0");
        y.live(9);
        c.due("one guesses at a gate that never opens", y.count(7) > 0, true);
    }

    private static void drawnSales(Check c) {
        RiddleRoad x = Check.told("gate 50;gate 0 blind;gate 0;walker 30 0 knows 0;walker 20 0 knows 0;walker 9 0 knows 0;"
                + "walker 12 0;price 0 0 7;price 1 0 6;price 2 0 6");
        c.due("no passes", x.live(1), 0);
        c.due("bought of the first of the cheapest", x.walker(1, 1), 26);
        c.due("paid", x.walker(3, 1), 6);
        c.due("had", x.walker(3, 3), 1);
        c.due("since day 0", x.since(3, 0), 0);
        x.live(3);
        c.due("bought once", x.walker(3, 1), 6);
        RiddleRoad y = Check.told("gate 0;walker 9999 0 knows 0;walker 5 0 knows 0;walker 9 0;price 0 0 1;price 1 0 2");
        y.live(1);
        c.due("the cheapest seller has no room, no other one sells", y.walker(2, 3), 0);
        RiddleRoad z = Check.told("gate 0 blind;gate 0;walker 5 0 knows 0 1;walker 5 0;price 0 0 1;price 0 1 1;liar 0");
        z.live(2);
        c.due("it buys where it is, not what is asked", z.walker(1, 3), 1);
        c.due("a lie", z.walker(1, 4), 0);
        RiddleRoad v = Check.told("gate 0;walker 5 0 knows 0;walker 3 0;price 0 0 4");
        v.live(2);
        c.due("too few coins", v.walker(1, 3), 0);
    }

    private static void caughtAndBack(Check c) {
        RiddleRoad x = Check.told("gate 0;gate 1;gate 0;walker 0 0 knows 0 1;walker 9 0 knows 0;liar 0;price 0 1 0");
        c.due("one passes each", x.live(1), 2);
        c.due("one buys, and one cannot pay", x.live(1), 0);
        c.due("a lie", x.walker(1, 3), 3);
        c.due("one is caught", x.live(1), 0);
        c.due("at 0", x.walker(1, 0), 0);
        c.due("forgotten", x.walker(1, 3), 1);
        c.due("one passes again", x.live(1), 1);
        RiddleRoad y = Check.told("gate 0 singing;gate 0;walker 0 0 knows 0;walker 0 0;change 0");
        c.due("one hears ahead of one's own act", y.live(1), 2);
        RiddleRoad z = Check.told("gate 0 singing;gate 0;walker 0 0;walker 0 0 knows 0;change 0");
        c.due("one hears behind one's own act", z.live(1), 1);
        c.due("and passes the next day", z.live(1), 1);
        Check.road(z, "walker 0 0 knows 0 1");
        z.days(4);
        c.due("on day 6", z.live(1), 1);
        c.due("the change comes behind the passes", z.walker(2, 3), 2);
    }

    private static void wrongDays(Check c) {
        RiddleRoad x = Check.told("gate 0;walker 9 0 knows 0");
        x.inn(1);
        Class<IllegalArgumentException> wrong = IllegalArgumentException.class;
        int[] none = {0, -1, 100, Integer.MIN_VALUE, Integer.MAX_VALUE};
        for (int n : none) {
            c.refused("days " + n, wrong, () -> x.days(n));
            c.refused("live " + n, wrong, () -> x.live(n));
        }
        c.due("no day went", x.count(4), 0);
        c.due("the inn is remembered", x.count(10), 1);
        c.due("99 days", x.live(99), 1);
        c.due("the day", x.count(4), 99);
    }
}
