/** Promises 20 to 24, 29 and 30: what is asked without changing anything. */
public final class PlansTest {
    private static final Class<IndexOutOfBoundsException> NO_SUCH = IndexOutOfBoundsException.class;
    private static final Class<IllegalArgumentException> WRONG = IllegalArgumentException.class;

    public static void main(String[] args) {
        Check c = new Check();
        cheapest(c);
        cheapestByKinds(c);
        wrongCheapest(c);
        convoy(c);
        wrongConvoy(c);
        tries(c);
        bring(c);
        apart(c);
        lie(c);
        wrongLie(c);
        monday(c);
        c.close();
    }

    private static void plan(Check c, RiddleRoad x, int walker, int to, int[] due) {
        c.due("cheapest " + walker + " " + to, x.cheapest(walker, to, false), due[0]);
        c.due("cheapest set " + walker + " " + to, x.cheapest(walker, to, true), due[1]);
    }

    private static void cheapest(Check c) {
        RiddleRoad x = Check.told("gate 1;gate 2;gate 4;gate 8;walker 0 0 knows 1;walker 9 0 knows 0 2;walker 9 0 knows 0 2;"
                + "price 1 0 30;price 2 0 20;price 1 2 10;price 2 2 11;price 0 3 5");
        plan(c, x, 0, 0, new int[] {0, 0});
        plan(c, x, 0, 1, new int[] {21, 1});
        plan(c, x, 0, 2, new int[] {23, 1});
        plan(c, x, 0, 3, new int[] {37, 5});
        plan(c, x, 0, 4, new int[] {-1, -1});
        plan(c, x, 1, 1, new int[] {1, 0});
        plan(c, x, 1, 2, new int[] {-1, -1});
        Check.road(x, "price 0 1 0");
        plan(c, x, 1, 2, new int[] {3, 2});
        x.sell(0, 1, 1);
        x.pass(1);
        plan(c, x, 1, 1, new int[] {0, 0});
        plan(c, x, 1, 3, new int[] {6, 0});
        c.due("nothing is bought", x.walker(0, 3), 2);
        c.due("nothing is paid", x.count(7), 1);
    }

    private static void cheapestByKinds(Check c) {
        RiddleRoad x = Check.told("gate 1;gate 0 double 0;gate 0 blind;gate 0 false;gate 0 closed 1;gate 0 blind;"
                + "walker 0 0;walker 0 0;walker 0 0 knows 0 1 2 3 4 5;price 2 0 1;price 2 1 2;price 2 3 8;price 2 4 16");
        plan(c, x, 0, 2, new int[] {4, 3});
        plan(c, x, 0, 3, new int[] {12, 11});
        plan(c, x, 0, 4, new int[] {12, 11});
        plan(c, x, 0, 5, new int[] {28, 27});
        plan(c, x, 0, 6, new int[] {-1, -1});
        plan(c, x, 1, 4, new int[] {12, 11});
        plan(c, x, 1, 5, new int[] {-1, -1});
        plan(c, x, 2, 6, new int[] {1, 0});
        Check.road(x, "price 2 5 32;price 2 2 0");
        plan(c, x, 0, 6, new int[] {60, 59});
        Check.road(x, "gate 0");
        plan(c, x, 0, 6, new int[] {-1, -1});
    }

    private static void wrongCheapest(Check c) {
        RiddleRoad x = Check.told("gate 0;gate 0;walker 0 0 knows 0 1");
        x.pass(0);
        c.refused("ahead of where one is", WRONG, () -> x.cheapest(0, 0, true));
        c.refused("no gate", WRONG, () -> x.cheapest(0, 3, true));
        c.refused("no gate below", WRONG, () -> x.cheapest(0, -1, true));
        c.refused("no walker", NO_SUCH, () -> x.cheapest(1, 0, true));
        c.refused("no walker below", NO_SUCH, () -> x.cheapest(-1, 9, true));
        plan(c, x, 0, 2, new int[] {0, 0});
    }

    private static void convoy(Check c) {
        RiddleRoad x = Check.told("gate 1;gate 2;gate 4 closed 2;walker 9 0 knows 0;walker 9 0 knows 1;walker 9 0 knows 0 2;"
                + "walker 9 0 knows 2;price 2 2 20;price 3 2 30;price 0 0 7;price 1 1 5");
        c.due("two to 2", x.convoy(3, 2, false), 6);
        c.due("they need nothing", x.convoy(3, 2, true), 0);
        c.due("two to 3, who buy of the cheapest once", x.convoy(3, 3, false), 34);
        c.due("what they buy", x.convoy(3, 3, true), 4);
        c.due("three with the seller", x.convoy(11, 3, false), 21);
        c.due("who need nothing", x.convoy(11, 3, true), 0);
        c.due("one of them is shut out", x.convoy(7, 3, false), -1);
        c.due("one of them is shut out, by the set", x.convoy(7, 3, true), -1);
        c.due("but not from 2", x.convoy(7, 2, false), 9);
        c.due("bits of no walker", x.convoy(-16 | 3, 3, false), 34);
        c.due("one alone", x.convoy(8, 1, false), 8);
        c.due("one alone buys", x.convoy(8, 2, true), 3);
        x.pass(0);
        c.due("one is beyond 0", x.convoy(1, 0, false), 0);
        c.due("one is beyond 1", x.convoy(3, 1, false), 1);
        c.due("from where each is", x.convoy(3, 2, false), 5);
        x.pass(2);
        Check.road(x, "still");
        x.sell(1, 2, 1);
        x.pass(2);
        Check.road(x, "gate 0;walker 9 0 knows 0 1 2 3");
        c.due("nobody sells", x.convoy(3, 4, false), -1);
        c.due("the one beyond needs no more", x.convoy(20, 2, false), 3);
    }

    private static void wrongConvoy(Check c) {
        RiddleRoad x = Check.told("gate 0;walker 0 0 knows 0");
        c.refused("nobody", WRONG, () -> x.convoy(0, 0, true));
        c.refused("nobody there is", WRONG, () -> x.convoy(-2, 0, true));
        c.refused("no gate", WRONG, () -> x.convoy(1, 2, true));
        c.refused("no gate below", WRONG, () -> x.convoy(1, -1, true));
        c.due("to the end", x.convoy(1, 1, true), 0);
        RiddleRoad y = new RiddleRoad();
        c.refused("no walkers at all", WRONG, () -> y.convoy(-1, 0, true));
    }

    private static void tries(Check c) {
        RiddleRoad x = Check.told("gate 0;gate 0;walker 0 50;walker 0 1;walker 0 99;walker 0 13");
        int[][] due = {{0, 1000000, 0}, {0, 999999, 1}, {0, 500000, 1}, {0, 499999, 2}, {0, 250000, 2}, {0, 1, 20},
            {0, 0, 30}, {1, 990000, 1}, {1, 369730, 99}, {1, 369729, -1}, {1, 0, -1}, {2, 10000, 1}, {2, 9999, 2}, {2, 0, 5},
            {3, 870000, 1}, {3, 869999, 2}};
        for (int[] d : due) {
            c.due("tries " + d[0] + " " + d[1], x.tries(d[0], 1, d[1]), d[2]);
        }
        Check.law(x, "never if gate > 0");
        c.due("no chance", x.tries(0, 1, 999999), -1);
        c.due("no chance needed", x.tries(0, 1, 1000000), 0);
        c.due("at the other gate", x.tries(0, 0, 500000), 1);
        c.refused("too many millionths", WRONG, () -> x.tries(0, 0, 1000001));
        c.refused("below 0", WRONG, () -> x.tries(0, 0, -1));
        c.refused("no walker", NO_SUCH, () -> x.tries(4, 0, -1));
        c.refused("no walker below", NO_SUCH, () -> x.tries(-1, 0, 0));
        c.refused("no gate", NO_SUCH, () -> x.tries(0, 2, 0));
        c.refused("no gate below", NO_SUCH, () -> x.tries(0, -1, -1));
    }

    private static void bring(Check c) {
        RiddleRoad x = Check.told("gate 0;gate 0 double 0;gate 0 blind;gate 0 closed 0;gate 0;walker 0 0 knows 0;"
                + "walker 0 0 knows 1;walker 0 0 knows 3;walker 0 0 knows 0 1;walker 0 0 knows 1 3");
        c.due("of no gate", x.bring(0), 0);
        c.due("bits of no gate", x.bring(-32), 0);
        c.due("the first of two", x.bring(1), 1);
        c.due("one who has both", x.bring(2), 8);
        c.due("blind asks the one behind", x.bring(4), 4);
        c.due("closed as plain", x.bring(8), 4);
        c.due("one is fewer than two", x.bring(3), 8);
        c.due("two, the least as bits", x.bring(1 + 2 + 4), 12);
        c.due("two together, the least", x.bring(1 + 8), 5);
        c.due("nobody has it", x.bring(16), -1);
        c.due("nobody has one of them", x.bring(17), -1);
        c.due("all bits", x.bring(15 - 64), 12);
        c.due("nothing came", x.walker(0, 3), 1);
        RiddleRoad y = Check.told("gate 0");
        c.due("nobody there", y.bring(1), -1);
        c.due("nobody needed", y.bring(0), 0);
    }

    private static void apart(Check c) {
        RiddleRoad x = Check.told("gate 0;gate 0 double 0;gate 0 blind;gate 0 closed 0;gate 0;walker 0 0 knows 0;"
                + "walker 0 0 knows 1;walker 0 0 knows 3;walker 0 0 knows 0 1;walker 0 0 knows 1 3");
        c.due("all who have it", x.apart(0), 9);
        c.due("all who have the rarer one", x.apart(1), 9);
        c.due("blind asks the one behind", x.apart(2), 20);
        c.due("closed as plain", x.apart(3), 20);
        c.due("nobody has it", x.apart(4), 0);
        Check.road(x, "walker 0 0 knows 0");
        c.due("three have the one, three the other", x.apart(1), 26);
        c.refused("no gate", NO_SUCH, () -> x.apart(5));
        c.refused("no gate below", NO_SUCH, () -> x.apart(-1));
        RiddleRoad y = Check.told("gate 0");
        c.due("nobody there", y.apart(0), 0);
    }

    private static void lie(Check c) {
        RiddleRoad x = Check.told("gate 0;gate 0;gate 0;gate 0");
        c.due("the one told false", Check.lie(x, "TFTT", 0), 2);
        c.due("nobody knows", Check.lie(x, "????", 0), 15);
        c.due("one knows of a true one", Check.lie(x, "?T??", 0), 13);
        c.due("all say true", Check.lie(x, "TTTT", 0), 0);
        c.due("all say true, one is wrong", Check.lie(x, "TTTT", 1), 15);
        c.due("two say false", Check.lie(x, "FTFT", 0), 0);
        c.due("two say false, one is wrong", Check.lie(x, "FTFT", 1), 5);
        c.due("two say false, two are wrong", Check.lie(x, "FTF?", 2), 13);
        c.due("two say false, three are wrong", Check.lie(x, "FTFT", 3), 15);
        c.due("all are wrong", Check.lie(x, "FFFF", 12), 15);
        c.due("all but one", Check.lie(x, "FFFF", 3), 15);
        c.due("too many", Check.lie(x, "FFFF", 2), 0);
        c.due("the tape is used up", x.end(1), false);
        c.due("no fault", x.fault(), -1);
        RiddleRoad y = new RiddleRoad();
        c.due("no gates", Check.lie(y, "", 0), 0);
    }

    private static void wrongLie(Check c) {
        RiddleRoad x = Check.told("gate 0;gate 0");
        c.refused("too short", WRONG, () -> Check.lie(x, "T", 0));
        c.due("the tape is used up", x.end(1), false);
        c.refused("too long", WRONG, () -> Check.lie(x, "TTT", 0));
        c.refused("another byte", WRONG, () -> Check.lie(x, "T ", 0));
        c.refused("a small letter", WRONG, () -> Check.lie(x, "tF", 0));
        c.refused("below 0", WRONG, () -> Check.lie(x, "TF", -1));
        c.due("the tape is used up, too", x.end(1), false);
        c.refused("above 12", WRONG, () -> Check.lie(x, "TF", 13));
        c.due("12", Check.lie(x, "TF", 12), 3);
    }

    private static void monday(Check c) {
        RiddleRoad x = Check.told("gate 0;gate 0;gate 0;gate 0;walker 0 0 knows 0 1 2;walker 0 0 knows 1 2;walker 0 0 knows 3;"
                + "price 0 0 1;price 0 1 1;price 1 1 0;price 1 2 1;price 2 3 1");
        Check.road(x, "price 2 0 1;price 2 2 1");
        c.due("none", x.monday(0), 0);
        c.due("the one with two sellers", x.monday(1), 2);
        c.due("then the least of those with one", x.monday(2), 3);
        c.due("three", x.monday(3), 7);
        c.due("all", x.monday(4), 15);
        c.refused("more than there are", WRONG, () -> x.monday(5));
        c.refused("below 0", WRONG, () -> x.monday(-1));
        Check.road(x, "price 0 3 1;price 1 3 1;walker 0 0 knows 3;price 3 3 9;walker 0 0 knows 3;price 4 3 9");
        c.due("now three sell the last", x.monday(1), 8);
        c.due("two", x.monday(2), 10);
        c.due("nothing is forgotten", x.walker(0, 3), 7);
        RiddleRoad y = Check.told("gate 0;gate 0;gate 0;gate 0;gate 0;gate 0;gate 0;gate 0;gate 0;gate 0;gate 0;gate 0");
        c.due("nobody sells", y.monday(5), 31);
        c.due("twelve", y.monday(12), 4095);
        c.refused("thirteen", WRONG, () -> y.monday(13));
        c.due("no gates", new RiddleRoad().monday(0), 0);
    }
}
