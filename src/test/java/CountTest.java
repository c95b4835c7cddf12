/** Promise 35: what is counted. */
public final class CountTest {
    public static void main(String[] args) {
        Check c = new Check();
        all(c);
        behind(c);
        coins(c);
        answers(c);
        c.close();
    }

    private static void all(Check c) {
        RiddleRoad x = Check.told("gate 4;gate 0;gate 0;walker 10 0 knows 0 1;walker 20 0 knows 0;walker 5 0;wear 8;change 0 2");
        Check.law(x, "hard 1;hard 2;never if day > 9");
        Check.road(x, "");
        x.days(3);
        Check.put(x, "abc");
        x.chain();
        x.pass(0);
        x.pass(0);
        x.pass(1);
        int[] due = {3, 3, 2, 3, 3, 8, 5, 8, 27, 1, 3, 0, 3};
        for (int what = 0; what < due.length; what++) {
            c.due("count " + what, x.count(what), due[what]);
        }
        int[] others = {-1, 13, Integer.MIN_VALUE, Integer.MAX_VALUE};
        for (int what : others) {
            c.due("count " + what, x.count(what), -1);
        }
    }

    private static void behind(Check c) {
        RiddleRoad x = Check.told("walker 1 1;walker 1 1");
        c.due("without gates all are behind the last", x.count(11), 2);
        Check.road(x, "gate 0;walker 0 0 knows 0");
        c.due("now none is", x.count(11), 0);
        x.pass(2);
        c.due("one is", x.count(11), 1);
        c.due("answers that all have together", x.count(12), 1);
        x.inn(7);
        c.due("one answer is had by all", x.count(12), 3);
        Check.road(x, "gate 0");
        c.due("a gate more", x.count(11), 0);
    }

    private static void coins(Check c) {
        RiddleRoad x = Check.told("gate 7;gate 3 singing;walker 900 60 knows 0;walker 80 20 knows 1;walker 7 0;"
                + "price 0 0 5;price 1 1 6;liar 1");
        for (int i = 0; i < 40; i++) {
            x.live(1 + i % 3);
            if (i % 5 == 0) {
                x.walkBack(0);
                x.inn(i);
            }
            c.due("coins of all and the chest", x.count(7) + x.count(8), 987);
        }
    }

    /** One that two walkers have counts twice, whichever way it came or went. */
    private static void answers(Check c) {
        RiddleRoad x = new RiddleRoad();
        c.due("nobody has any", x.count(12), 0);
        Check.road(x, "gate 0;gate 0 singing;gate 0;walker 9 0 knows 0 1 2;walker 9 99 knows 1;walker 9 99;price 0 0 4");
        c.due("three, one and none", x.count(12), 4);
        x.sell(0, 1, 0);
        c.due("one is sold", x.count(12), 5);
        x.undo();
        c.due("the sale is undone", x.count(12), 4);
        c.due("all that came at an inn", x.inn(7) + 4, x.count(12));
        c.due("all have all", x.count(12), 9);
        x.undo();
        x.image();
        x.guess(2);
        c.due("one was guessed", x.count(12), 5);
        x.guess(1);
        x.pass(1);
        c.due("another was guessed", x.count(12), 6);
        x.pass(2);
        x.pass(1);
        c.due("a gate sang for one", x.count(12), 7);
        Check.road(x, "change 1");
        x.days(7);
        c.due("three forgot one on a Monday", x.count(12), 4);
        x.back();
        c.due("as it was in the image", x.count(12), 4);
        Check.road(x, "wear 1");
        x.days(2);
        c.due("all are worn off", x.count(12), 0);
    }
}
