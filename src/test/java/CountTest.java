/** Promise 35: what is counted. */
public final class CountTest {
    public static void main(String[] args) {
        Check c = new Check();
        all(c);
        behind(c);
        coins(c);
        c.close();
    }

    private static void all(Check c) {
        RiddleRoad x = Check.told("gate 4;gate 0;gate 0;walker 10 0 knows 0 1;walker 20 0 knows 0;walker 5 0;wear 8;change 0 2");
        Check.law(x, "hard 1;hard 2;never if day > 9");
        Check.road(x, "");
        x.days(3);
        Check.put(x, "abc");
        x.chain();
        x.pass(0);
        x.pass(0);
        x.pass(1);
        int[] due = {3, 3, 2, 3, 3, 8, 5, 8, 27, 1, 3, 0, 2};
        for (int what = 0; what < due.length; what++) {
            c.due("count " + what, x.count(what), due[what]);
        }
        int[] others = {-1, 13, Integer.MIN_VALUE, Integer.MAX_VALUE};
        for (int what : others) {
            c.due("count " + what, x.count(what), -1);
        }
    }

    private static void behind(Check c) {
        RiddleRoad x = Check.told("walker 1 1;walker 1 1");
        c.due("without gates all are behind the last", x.count(11), 2);
        Check.road(x, "gate 0;walker 0 0 knows 0");
        c.due("now none is", x.count(11), 0);
        x.pass(2);
        c.due("one is", x.count(11), 1);
        c.due("answers that all have together", x.count(12), 1);
        x.inn(7);
        c.due("one answer is had by all", x.count(12), 1);
        Check.road(x, "gate 0");
        c.due("a gate more", x.count(11), 0);
    }

    private static void coins(Check c) {
        RiddleRoad x = Check.told("gate 7;gate 3 singing;walker 900 60 knows 0;walker 80 20 knows 1;walker 7 0;"
                + "price 0 0 5;price 1 1 6;liar 1");
        for (int i = 0; i < 40; i++) {
            x.live(1 + i % 3);
            if (i % 5 == 0) {
                x.walkBack(0);
                x.inn(i);
            }
            c.due("coins of all and the chest", x.count(7) + x.count(8), 987);
        }
    }
}
