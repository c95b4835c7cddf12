/** Promises 4 and 6: the texts of the road and their faults. */
public final class RoadTextTest {
    private static final String TWO_GATES = "gate 1;gate 2;walker 5 6";

    public static void main(String[] args) {
        Check c = new Check();
        kinds(c);
        walkers(c);
        otherLines(c);
        blanks(c);
        wrongFirstWords(c);
        wrongGates(c);
        wrongWalkers(c);
        wrongOthers(c);
        limits(c);
        nothingStays(c);
        tenTexts(c);
        c.close();
    }

    private static void kinds(Check c) {
        RiddleRoad x = new RiddleRoad();
        String text = "gate 0;gate 99 double 0;gate 2 blind;gate 03 singing;gate 4 closed 7;gate 005 false;gate 6 double 5";
        c.due("the first text", Check.road(x, text), 1);
        int[] kinds = {0, 1, 2, 3, 4, 5, 1};
        int[] tolls = {0, 99, 2, 3, 4, 5, 6};
        int[] others = {-1, 0, -1, -1, 7, -1, 5};
        for (int g = 0; g < 7; g++) {
            c.due("kind of " + g, x.gate(g, 0), kinds[g]);
            c.due("toll of " + g, x.gate(g, 1), tolls[g]);
            c.due("other of " + g, x.gate(g, 2), others[g]);
        }
        c.due("gates", x.count(0), 7);
        c.due("the second text", Check.road(x, "gate 7 double 6"), 2);
        c.due("behind those before", x.gate(7, 2), 6);
        c.due("no fault", x.fault(), -1);
        c.due("the tape is used up", x.end(1), false);
    }

    private static void walkers(Check c) {
        RiddleRoad x = Check.told("gate 0;gate 0;gate 0;walker 9999 99 knows 2 0 2;walker 0 0;walker 0012 7");
        c.due("coins", x.walker(0, 1), 9999);
        c.due("ear", x.walker(0, 2), 99);
        c.due("knows", x.walker(0, 3), 5);
        c.due("knows truly", x.walker(0, 4), 5);
        c.due("no liar", x.walker(0, 5), 0);
        c.due("at the first", x.walker(0, 0), 0);
        c.due("coins of the next", x.walker(1, 1), 0);
        c.due("knows nothing", x.walker(1, 3), 0);
        c.due("four digits", x.walker(2, 1), 12);
        x.days(5);
        Check.road(x, "walker 1 1 knows 1");
        c.due("since the day of the text", x.since(3, 1), 5);
        c.due("as before", x.since(0, 2), 0);
    }

    private static void otherLines(Check c) {
        RiddleRoad x = Check.told(TWO_GATES + ";price 0 1 99;price 0 0 0;wear 99;change 1;liar 0");
        c.due("price", x.price(0, 1), 99);
        c.due("price of nothing", x.price(0, 0), 0);
        c.due("wear", x.count(5), 99);
        c.due("change", x.count(6), 2);
        c.due("liar", x.walker(0, 5), 1);
        Check.road(x, "price 0 1 3;wear 0;change 0;liar 0");
        c.due("a new price", x.price(0, 1), 3);
        c.due("wear never", x.count(5), 0);
        c.due("change in place of that before", x.count(6), 1);
        c.due("still a liar", x.walker(0, 5), 1);
        Check.road(x, "walker 1 1;walker 1 1;liar 2");
        c.due("a second liar", x.walker(2, 5), 1);
        c.due("the first one still", x.walker(0, 5), 1);
        c.due("no liar between", x.walker(1, 5), 0);
        Check.road(x, "change 0 1 0");
        c.due("change of both", x.count(6), 3);
        Check.road(x, "still");
        c.due("no change", x.count(6), 0);
    }

    private static void blanks(Check c) {
        RiddleRoad x = new RiddleRoad();
        c.due("an empty text", Check.road(x, ""), 1);
        c.due("a text of blanks", Check.road(x, "   "), 2);
        c.due("blanks all over", Check.road(x, "  gate  1 ;  gate 2  double  0  ; walker 3  4   knows  0 1  "), 3);
        c.due("gates", x.count(0), 2);
        c.due("knows", x.walker(0, 3), 3);
        c.due("no blanks", Check.road(x, "gate1double0;walker7 8knows1 0;price1 0 5;wear9;change0;liar1"), 4);
        c.due("other", x.gate(2, 2), 0);
        c.due("ear", x.walker(1, 2), 8);
        c.due("price", x.price(1, 0), 5);
    }

    private static void wrongFirstWords(Check c) {
        RiddleRoad x = new RiddleRoad();
        c.due("no text yet", x.fault(), -1);
        c.wrongRoad(x, ";", 0);
        c.wrongRoad(x, "5", 0);
        c.wrongRoad(x, "  Gate 1", 2);
        c.wrongRoad(x, "gates 1", 0);
        c.wrongRoad(x, "gat 1", 0);
        c.wrongRoad(x, "hard 1", 0);
        c.wrongRoad(x, "still;;still", 6);
        c.wrongRoad(x, "still;  ", 8);
        c.wrongRoad(x, "still still", 6);
        c.wrongRoad(x, "still\tstill", 5);
        c.wrongRoad(x, "gatewalker", 0);
    }

    private static void wrongGates(Check c) {
        RiddleRoad x = Check.told("gate 0");
        c.wrongRoad(x, "gate", 4);
        c.wrongRoad(x, "gate  ", 6);
        c.wrongRoad(x, "gate;", 4);
        c.wrongRoad(x, "gate x", 5);
        c.wrongRoad(x, "gate 100", 5);
        c.wrongRoad(x, "gate 0001", 5);
        c.wrongRoad(x, "gate 123456789012", 5);
        c.wrongRoad(x, "gate -1", 5);
        c.wrongRoad(x, "gate 1 2", 7);
        c.wrongRoad(x, "gate 1 plain", 7);
        c.wrongRoad(x, "gate 1 blinds", 7);
        c.wrongRoad(x, "gate 1 blind singing", 13);
        c.wrongRoad(x, "gate 1 double", 13);
        c.wrongRoad(x, "gate 1 double 1", 14);
        c.wrongRoad(x, "gate 1;gate 1 double 2", 21);
        c.wrongRoad(x, "gate 1 double 0000", 14);
        c.wrongRoad(x, "gate 1 closed", 13);
        c.wrongRoad(x, "gate 1 closed 8", 14);
        c.wrongRoad(x, "gate 1 closed false", 14);
        c.wrongRoad(x, "gate 1 false 0", 13);
    }

    private static void wrongWalkers(Check c) {
        RiddleRoad x = Check.told("gate 0;gate 0");
        c.wrongRoad(x, "walker", 6);
        c.wrongRoad(x, "walker 1", 8);
        c.wrongRoad(x, "walker 10000 1", 7);
        c.wrongRoad(x, "walker 00001 1", 7);
        c.wrongRoad(x, "walker 1 100", 9);
        c.wrongRoad(x, "walker 1 0010", 9);
        c.wrongRoad(x, "walker 1 1 1", 11);
        c.wrongRoad(x, "walker 1 1 know 1", 11);
        c.wrongRoad(x, "walker 1 1 knows", 16);
        c.wrongRoad(x, "walker 1 1 knows ;", 17);
        c.wrongRoad(x, "walker 1 1 knows 2", 17);
        c.wrongRoad(x, "walker 1 1 knows 1 2", 19);
        c.wrongRoad(x, "walker 1 1 knows 1 and", 19);
        c.wrongRoad(x, "walker 1 1 knows 2;gate 0", 17);
    }

    private static void wrongOthers(Check c) {
        RiddleRoad x = Check.told(TWO_GATES);
        c.wrongRoad(x, "price", 5);
        c.wrongRoad(x, "price 1 0 0", 6);
        c.wrongRoad(x, "price 0", 7);
        c.wrongRoad(x, "price 0 2 0", 8);
        c.wrongRoad(x, "price 0 1", 9);
        c.wrongRoad(x, "price 0 1 100", 10);
        c.wrongRoad(x, "price 0 1 1 1", 12);
        c.wrongRoad(x, "wear", 4);
        c.wrongRoad(x, "wear 100", 5);
        c.wrongRoad(x, "wear 1 1", 7);
        c.wrongRoad(x, "change", 6);
        c.wrongRoad(x, "change 2", 7);
        c.wrongRoad(x, "change 0 x", 9);
        c.wrongRoad(x, "still 0", 6);
        c.wrongRoad(x, "liar", 4);
        c.wrongRoad(x, "liar 1", 5);
        c.wrongRoad(x, "liar 0 0", 7);
    }

    private static void limits(Check c) {
        RiddleRoad x = new RiddleRoad();
        String six = "gate 0;gate 0;gate 0;gate 0;gate 0;gate 0";
        Check.road(x, six);
        c.wrongRoad(x, six + ";  gate 0 double 99", 44);
        Check.road(x, six);
        c.due("twelve gates", x.count(0), 12);
        c.wrongRoad(x, "still;gate", 6);
        String four = "walker 0 0;walker 0 0;walker 0 0;walker 0 0";
        Check.road(x, four + ";" + four);
        c.due("eight walkers", x.count(1), 8);
        c.wrongRoad(x, "still; walker 1 1", 7);
        String seven = "still;still;still;still;still;still;still";
        c.due("fourteen lines", Check.road(x, seven + ";" + seven), 4);
        c.wrongRoad(x, seven + ";" + seven + ";still", 84);
        c.wrongRoad(x, seven + ";" + seven + "; ", 85);
        c.wrongRoad(x, seven + ";" + seven + ";x", 84);
        c.wrongRoad(x, ";".repeat(400), 0);
        c.wrongRoad(x, "wear 1" + " ".repeat(393) + "1", 399);
        c.wrongRoad(x, "change 0" + " 0".repeat(194) + " 12", 397);
        c.due("a long row of gates", Check.road(x, "change 11" + " 0".repeat(195)), 5);
        c.due("they are of change", x.count(6), 2049);
    }

    private static void nothingStays(Check c) {
        RiddleRoad x = Check.told(TWO_GATES);
        x.pass(guesser(x));
        c.wrongRoad(x, "gate 9;walker 1 1;price 0 0 9;wear 9;change 1;liar 0;gate", 57);
        c.due("gates", x.count(0), 2);
        c.due("walkers", x.count(1), 2);
        c.due("texts", x.count(2), 2);
        c.due("wear", x.count(5), 0);
        c.due("change", x.count(6), 0);
        c.due("price", x.price(0, 0), -1);
        c.due("liar", x.walker(0, 5), 0);
        c.due("what was done can be undone", x.count(10), 1);
        c.due("the tape is used up", x.end(1), false);
        Check.road(x, "still");
        c.due("a right text takes the fault away", x.fault(), -1);
    }

    /** One more walker who may pass. */
    private static int guesser(RiddleRoad x) {
        Check.road(x, "walker 9 0 knows 0");
        return 1;
    }

    private static void tenTexts(Check c) {
        RiddleRoad x = new RiddleRoad();
        for (int i = 1; i <= 10; i++) {
            c.due("text " + i, Check.road(x, i == 1 ? TWO_GATES + " knows 0" : ""), i);
        }
        x.pass(0);
        c.wrongRoad(x, "gate 0;x", 7);
        c.refused("an 11th text", UnsupportedOperationException.class, () -> Check.road(x, "gate 0"));
        c.due("it was read, and right", x.fault(), -1);
        c.due("it is not told", x.count(0), 2);
        c.due("ten texts", x.count(2), 10);
        c.due("the tape is used up", x.end(1), false);
        c.due("the pass can be undone", x.undo(), true);
    }
}
