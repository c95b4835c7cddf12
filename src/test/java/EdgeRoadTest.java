/** The edges that Terms 1 names of gates, walkers, days and the lines of the road: a test for each sentence. */
public final class EdgeRoadTest {
    private static final Class<IndexOutOfBoundsException> NO_SUCH = IndexOutOfBoundsException.class;
    private static final Class<IllegalStateException> REFUSED = IllegalStateException.class;

    public static void main(String[] args) {
        Check c = new Check();
        sentences(c);
        c.close();
    }

    static void sentences(Check c) {
        c.sentence("GATES (at most 12, numbered from 0 on, along the road)", EdgeRoadTest::twelveGates);
        c.sentence("KIND 0 plain, 1 double, 2 blind, 3 singing, 4 closed, 5 false", EdgeRoadTest::sixKinds);
        c.sentence("TOLL 0 to 99", EdgeRoadTest::tolls);
        c.sentence("of a double one its OTHER (a GATE ahead of it by number)", EdgeRoadTest::others);
        c.sentence("of a closed one a WALKER's number (0 to 7) to whom it never opens", EdgeRoadTest::closed);
        c.sentence("WALKERS (at most 8, numbered from 0 on)", EdgeRoadTest::eightWalkers);
        c.sentence("AT: the GATE at which one stands (0 at first;", EdgeRoadTest::atFirst);
        c.sentence("behind the last one: as many as there are GATES)", EdgeRoadTest::behindTheLast);
        c.sentence("COINS 0 to 9999", EdgeRoadTest::coins);
        c.sentence("EAR 0 to 99", EdgeRoadTest::ears);
        c.sentence("of each GATE whether one has its ANSWER, since what DAY, and whether it is a TRUE one",
                EdgeRoadTest::answersOfAText);
        c.sentence("PRICE of a WALKER for an ANSWER: 0 to 99, or not for sale (at first).", EdgeRoadTest::prices);
        c.sentence("LIAR: what one sells is FALSE.", EdgeRoadTest::liars);
        c.sentence("DAY: 0 at first.", EdgeRoadTest::dayAtFirst);
        c.sentence("WEAR: an ANSWER is forgotten, if it was had for more DAYS than that (0 to 99;", EdgeRoadTest::wear);
        c.sentence("0: never, as at first).", EdgeRoadTest::wearNever);
        c.sentence("CHANGE: GATES (bits; none at first)", EdgeRoadTest::changeAtFirst);
        c.sentence("whose ANSWERS are all forgotten on each DAY that is 0 modulo 7.", EdgeRoadTest::changeOnMondays);
        c.sentence("CHEST: coins of tolls (0 at first).", EdgeRoadTest::chestAtFirst);
        c.sentence("THE ROAD is told in texts (at most 10, one behind another)", EdgeRoadTest::tenTexts);
        c.sentence("LINE { ; LINE }, at most 14:", EdgeRoadTest::fourteenLines);
        c.sentence("gate TOLL [ double G | blind | singing | closed W | false ]", EdgeRoadTest::gateLines);
        c.sentence("walker COINS EAR [ knows G { G } ]", EdgeRoadTest::knowsSome);
        c.sentence("| price W G N | wear N |", EdgeRoadTest::priceAndWearLines);
        c.sentence("change G { G } | still | liar W.", EdgeRoadTest::changeOfSome);
        c.sentence("G: a GATE, W of price and liar: a WALKER that there is by then;", EdgeRoadTest::walkersByThen);
        c.sentence("W of closed: 0 to 7.", EdgeRoadTest::closedToNobodyYet);
        c.sentence("change: in place of those before; still: none.", EdgeRoadTest::changeInPlace);
        c.sentence("COINS is of 1 to 4 digits, all others of 1 to 3.", EdgeRoadTest::digits);
    }

    /** So many plain gates that cost nothing: fourteen at most fit into a text. */
    static String gates(int n) {
        return "gate 0;".repeat(n).substring(0, 7 * n - 1);
    }

    static String walkers(int n) {
        return "walker 1 1;".repeat(n).substring(0, 11 * n - 1);
    }

    private static void twelveGates(Check c) {
        RiddleRoad x = Check.told(gates(11));
        c.due("eleven", x.count(0), 11);
        c.refused("gate 11 is not there yet", NO_SUCH, () -> x.gate(11, 0));
        Check.road(x, "gate 7");
        c.due("twelve", x.count(0), 12);
        c.due("the last is 11", x.gate(11, 1), 7);
        c.refused("none is 12", NO_SUCH, () -> x.gate(12, 0));
        c.wrongRoad(x, "gate 0", 0);
        c.wrongRoad(x, "still; gate 0", 7);
        c.due("twelve still", x.count(0), 12);
        RiddleRoad y = new RiddleRoad();
        c.wrongRoad(y, gates(13), 84);
        c.due("none of them stays", y.count(0), 0);
        c.due("twelve in one text", Check.road(y, gates(12)), 1);
        c.due("they are there", y.count(0), 12);
    }

    private static void sixKinds(Check c) {
        RiddleRoad x = Check.told("gate 0;gate 0 double 0;gate 0 blind;gate 0 singing;gate 0 closed 0;gate 0 false");
        for (int g = 0; g < 6; g++) {
            c.due("kind of gate " + g, x.gate(g, 0), g);
        }
    }

    private static void tolls(Check c) {
        RiddleRoad x = Check.told("gate 0;gate 99;walker 98 0 knows 0 1;walker 99 0 knows 0 1");
        c.due("the least", x.gate(0, 1), 0);
        c.due("the most", x.gate(1, 1), 99);
        c.wrongRoad(x, "gate 100", 5);
        c.wrongRoad(x, "gate 999", 5);
        c.due("no toll is paid", x.pass(0), 1);
        c.due("nothing went", x.walker(0, 1), 98);
        c.refused("one coin too few", REFUSED, () -> x.pass(0));
        x.pass(1);
        c.due("just enough", x.pass(1), 2);
    }

    private static void others(Check c) {
        RiddleRoad x = new RiddleRoad();
        c.wrongRoad(x, "gate 0 double 0", 14);
        c.due("the first of all", Check.road(x, "gate 0;gate 0 double 0"), 1);
        c.due("the one just ahead", Check.road(x, "gate 0;gate 0 double 2"), 2);
        c.due("other", x.gate(3, 2), 2);
        c.due("the first", x.gate(1, 2), 0);
        c.wrongRoad(x, "gate 0 double 4", 14);
        c.wrongRoad(x, "gate 0 double 5;gate 0", 14);
        c.wrongRoad(x, "gate 0 double 11", 14);
        c.due("a double one of a double one", Check.road(x, "gate 0 double 3"), 3);
    }

    private static void closed(Check c) {
        RiddleRoad x = Check.told("gate 0 closed 7;gate 0 closed 0");
        c.due("the greatest", x.gate(0, 2), 7);
        c.due("the least", x.gate(1, 2), 0);
        c.wrongRoad(x, "gate 0 closed 8", 14);
        c.wrongRoad(x, "gate 0 closed 999", 14);
        Check.road(x, "walker 1 0 knows 0 1;".repeat(7) + "walker 1 0 knows 0 1");
        c.due("not to walker 7", x.may(7, 0, false), false);
        c.due("nor surely", x.may(7, 0, true), false);
        c.refused("so one does not pass", REFUSED, () -> x.pass(7));
        c.due("to walker 6", x.may(6, 0, true), true);
        c.due("not to walker 0", x.may(0, 1, false), false);
        c.due("to walker 1", x.may(1, 1, true), true);
        c.due("walker 0 passes the other", x.pass(0), 1);
        c.refused("and not this one", REFUSED, () -> x.pass(0));
    }

    private static void eightWalkers(Check c) {
        RiddleRoad x = Check.told(walkers(7));
        c.refused("walker 7 is not there yet", NO_SUCH, () -> x.walker(7, 0));
        Check.road(x, "walker 8 9");
        c.due("eight", x.count(1), 8);
        c.due("the last is 7", x.walker(7, 1), 8);
        c.refused("none is 8", NO_SUCH, () -> x.walker(8, 0));
        c.wrongRoad(x, "walker 1 1", 0);
        c.wrongRoad(x, "gate 0;  walker 1 1", 9);
        c.due("eight still", x.count(1), 8);
        RiddleRoad y = new RiddleRoad();
        c.wrongRoad(y, walkers(9), 88);
        c.due("none of them stays", y.count(1), 0);
    }

    private static void atFirst(Check c) {
        RiddleRoad x = Check.told("gate 0;gate 0;walker 1 0 knows 0");
        c.due("the first", x.walker(0, 0), 0);
        x.pass(0);
        Check.road(x, "walker 1 0");
        c.due("a later one", x.walker(1, 0), 0);
        c.due("the one who passed", x.walker(0, 0), 1);
    }

    private static void behindTheLast(Check c) {
        RiddleRoad x = Check.told("gate 0;gate 0;walker 1 0 knows 0 1");
        x.pass(0);
        c.due("at the last one", x.walker(0, 0), 1);
        c.due("none is behind it", x.count(11), 0);
        x.pass(0);
        c.due("as many as there are", x.walker(0, 0), 2);
        c.due("one is behind it", x.count(11), 1);
        RiddleRoad y = Check.told("walker 1 0");
        c.due("without a gate one is behind all", y.count(11), 1);
    }

    private static void coins(Check c) {
        RiddleRoad x = Check.told("gate 0;walker 0 0;walker 9999 0");
        c.due("the fewest", x.walker(0, 1), 0);
        c.due("the most", x.walker(1, 1), 9999);
        c.wrongRoad(x, "walker 10000 0", 7);
        c.refused("no coin to lose", REFUSED, () -> x.pass(0));
        x.guess(0);
        c.due("not below 0", x.walker(0, 1), 0);
    }

    private static void ears(Check c) {
        RiddleRoad x = Check.told("gate 0;walker 0 0;walker 0 99");
        c.due("the least", x.walker(0, 2), 0);
        c.due("the most", x.walker(1, 2), 99);
        c.wrongRoad(x, "walker 0 100", 9);
        c.wrongRoad(x, "walker 0 999", 9);
    }

    private static void answersOfAText(Check c) {
        RiddleRoad x = Check.told("gate 0;gate 0;walker 0 0");
        c.due("none", x.walker(0, 3), 0);
        c.due("since no day", x.since(0, 1), -1);
        x.days(9);
        Check.road(x, "walker 0 0 knows 1");
        c.due("one", x.walker(1, 3), 2);
        c.due("it is true", x.walker(1, 4), 2);
        c.due("since the day of the text", x.since(1, 1), 9);
    }

    private static void prices(Check c) {
        RiddleRoad x = Check.told("gate 0;walker 5 5 knows 0");
        c.due("not for sale at first", x.price(0, 0), -1);
        Check.road(x, "price 0 0 0;gate 0;walker 0 0");
        c.due("the least", x.price(0, 0), 0);
        c.due("a new gate's is not for sale", x.price(0, 1), -1);
        c.due("a new walker's is not for sale", x.price(1, 0), -1);
        Check.road(x, "price 0 0 99");
        c.due("the most", x.price(0, 0), 99);
        c.wrongRoad(x, "price 0 0 100", 10);
        c.wrongRoad(x, "price 0 0 999", 10);
        c.due("as before", x.price(0, 0), 99);
    }

    private static void liars(Check c) {
        RiddleRoad x = Check.told("gate 0;walker 0 0 knows 0;walker 0 0 knows 0;walker 0 0;walker 0 0;walker 0 0;price 0 0 0;price 1 0 0;liar 1");
        c.due("nobody lies at first", x.walker(0, 5), 0);
        x.sell(0, 2, 0);
        x.sell(1, 3, 0);
        c.due("true of one who does not", x.walker(2, 4), 1);
        c.due("false of one who does", x.walker(3, 4), 0);
        Check.road(x, "liar 0;liar 0");
        x.sell(0, 4, 0);
        c.due("both lie now", x.walker(4, 4), 0);
        c.due("the first", x.walker(0, 5), 1);
        c.due("the second still", x.walker(1, 5), 1);
        c.due("what was sold ahead of that stays", x.walker(2, 4), 1);
    }

    private static void dayAtFirst(Check c) {
        RiddleRoad x = new RiddleRoad();
        c.due("the day", x.count(4), 0);
        Check.road(x, "gate 0;walker 0 0 knows 0");
        c.due("a text takes none", x.count(4), 0);
        c.due("since the first day", x.since(0, 0), 0);
    }

    private static void wear(Check c) {
        int[] wears = {1, 2, 6, 7, 98, 99};
        for (int wear : wears) {
            RiddleRoad x = Check.told("gate 0;walker 0 0 knows 0;wear " + wear);
            c.due("wear", x.count(5), wear);
            x.days(wear);
            c.due("had for " + wear + " days", x.walker(0, 3), 1);
            x.days(1);
            c.due("had for a day more than " + wear, x.walker(0, 3), 0);
            c.due("nothing of it is true", x.walker(0, 4), 0);
            c.due("since no day", x.since(0, 0), -1);
        }
        RiddleRoad later = Check.told("gate 0;walker 0 99;wear 5");
        later.days(9);
        later.guess(0);
        later.days(5);
        c.due("had for 5 days since the ninth", later.walker(0, 3), 1);
        later.days(1);
        c.due("had for 6 days", later.walker(0, 3), 0);
        RiddleRoad y = new RiddleRoad();
        c.wrongRoad(y, "wear 100", 5);
        c.wrongRoad(y, "wear 999", 5);
        c.due("no wear", y.count(5), 0);
    }

    private static void wearNever(Check c) {
        RiddleRoad x = Check.told("gate 0;walker 0 0 knows 0");
        c.due("at first", x.count(5), 0);
        x.days(99);
        x.days(99);
        c.due("never forgotten", x.walker(0, 3), 1);
        Check.road(x, "wear 99;wear 0");
        x.days(99);
        c.due("nor when 0 is told", x.walker(0, 3), 1);
        c.due("as it was", x.since(0, 0), 0);
    }

    private static void changeAtFirst(Check c) {
        RiddleRoad x = Check.told("gate 0;gate 0;walker 0 0 knows 0 1");
        c.due("none", x.count(6), 0);
        c.due("nor this one", x.gate(1, 5), 0);
        x.days(14);
        c.due("none is forgotten", x.walker(0, 3), 3);
    }

    private static void changeOnMondays(Check c) {
        RiddleRoad x = Check.told("gate 0;gate 0;gate 0;walker 0 0 knows 0 1 2;walker 0 0 knows 2;change 2 0");
        c.due("of day 0 they are had", x.walker(0, 3), 7);
        for (int day = 1; day <= 6; day++) {
            x.days(1);
            c.due("day " + day, x.walker(0, 3), 7);
        }
        x.days(1);
        c.due("day 7", x.walker(0, 3), 2);
        c.due("of all", x.walker(1, 3), 0);
        Check.road(x, "walker 0 0 knows 0 1");
        x.days(6);
        c.due("day 13", x.walker(2, 3), 3);
        x.days(1);
        c.due("day 14", x.walker(2, 3), 2);
        Check.road(x, "walker 0 0 knows 0");
        x.days(99);
        c.due("within many days", x.walker(3, 3), 0);
    }

    private static void chestAtFirst(Check c) {
        RiddleRoad x = Check.told("gate 3;walker 9 0 knows 0");
        c.due("empty", x.count(7), 0);
        x.pass(0);
        c.due("a toll", x.count(7), 3);
    }

    private static void tenTexts(Check c) {
        RiddleRoad x = new RiddleRoad();
        for (int i = 1; i <= 10; i++) {
            c.due("text " + i, Check.road(x, i < 3 ? "gate " + i : "still"), i);
        }
        c.due("one stood behind another", x.gate(1, 1), 2);
        c.refused("an 11th", UnsupportedOperationException.class, () -> Check.road(x, "gate 3"));
        c.refused("an 11th without a line", UnsupportedOperationException.class, () -> Check.road(x, ""));
        c.due("ten", x.count(2), 10);
        c.due("two gates", x.count(0), 2);
        RiddleRoad y = new RiddleRoad();
        for (int i = 0; i < 11; i++) {
            c.wrongRoad(y, "x", 0);
        }
        c.due("wrong ones are none of them", Check.road(y, "still"), 1);
    }

    private static void fourteenLines(Check c) {
        RiddleRoad x = new RiddleRoad();
        c.due("fourteen", Check.road(x, "wear 1;".repeat(13) + "wear 2"), 1);
        c.due("the last of them", x.count(5), 2);
        c.wrongRoad(x, "wear 1;".repeat(14) + "wear 2", 98);
        c.wrongRoad(x, "wear 1;".repeat(14) + "  wear 2;wear 2", 100);
        c.due("none of fifteen", x.count(5), 2);
        c.due("one more text of fourteen", Check.road(x, "wear 3;".repeat(13) + "wear 4"), 2);
    }

    private static void gateLines(Check c) {
        RiddleRoad x = Check.told("gate 5;gate 6 double 0;gate 7 blind;gate 8 singing;gate 9 closed 3;gate 10 false");
        int[] others = {-1, 0, -1, -1, 3, -1};
        for (int g = 0; g < 6; g++) {
            c.due("kind of gate " + g, x.gate(g, 0), g);
            c.due("toll of gate " + g, x.gate(g, 1), 5 + g);
            c.due("other of gate " + g, x.gate(g, 2), others[g]);
        }
        c.wrongRoad(x, "gate", 4);
        c.wrongRoad(x, "gate blind", 5);
        c.wrongRoad(x, "gate 1 double", 13);
        c.wrongRoad(x, "gate 1 double;still", 13);
        c.wrongRoad(x, "gate 1 double blind", 14);
        c.wrongRoad(x, "gate 1 double 0 blind", 16);
        c.wrongRoad(x, "gate 1 closed", 13);
        c.wrongRoad(x, "gate 1 closed 0 0", 16);
        c.wrongRoad(x, "gate 1 blind 0", 13);
        c.wrongRoad(x, "gate 1 singing 0", 15);
        c.wrongRoad(x, "gate 1 false 0", 13);
        c.wrongRoad(x, "gate 1 blind singing", 13);
        c.wrongRoad(x, "gate 1 plain", 7);
        c.wrongRoad(x, "gate 1 still", 7);
        c.due("none of these", x.count(0), 6);
    }

    private static void knowsSome(Check c) {
        RiddleRoad x = Check.told("gate 0;gate 0;gate 0");
        c.wrongRoad(x, "walker 1 1 knows", 16);
        c.wrongRoad(x, "walker 1 1 knows;still", 16);
        Check.road(x, "walker 1 1;walker 1 1 knows 2;walker 1 1 knows 2 1 0;walker 1 1 knows 1 1 1");
        int[] due = {0, 4, 7, 2};
        for (int w = 0; w < 4; w++) {
            c.due("walker " + w, x.walker(w, 3), due[w]);
        }
        c.wrongRoad(x, "walker 1 1 knows 3", 17);
        c.wrongRoad(x, "walker 1 1 knows 0 1 2 3", 23);
    }

    private static void priceAndWearLines(Check c) {
        RiddleRoad x = Check.told("gate 0;gate 0;walker 0 0;walker 0 0;price 1 0 7;price 0 1 8;price 1 0 9;wear 5;wear 6");
        c.due("the later price", x.price(1, 0), 9);
        c.due("the other way round", x.price(0, 1), 8);
        c.due("neither", x.price(0, 0), -1);
        c.due("the later wear", x.count(5), 6);
        c.wrongRoad(x, "price", 5);
        c.wrongRoad(x, "price 0", 7);
        c.wrongRoad(x, "price 0 0", 9);
        c.wrongRoad(x, "price 0 0 ;still", 10);
        c.wrongRoad(x, "price 0 0 0 0", 12);
        c.wrongRoad(x, "price 0 0 still", 10);
        c.wrongRoad(x, "wear", 4);
        c.wrongRoad(x, "wear;still", 4);
        c.wrongRoad(x, "wear 1 2", 7);
    }

    private static void changeOfSome(Check c) {
        RiddleRoad x = Check.told("gate 0;gate 0");
        c.wrongRoad(x, "change", 6);
        c.wrongRoad(x, "change;still", 6);
        c.wrongRoad(x, "change 2", 7);
        c.wrongRoad(x, "change 0 1 2", 11);
        Check.road(x, "change 1");
        c.due("one", x.count(6), 2);
        Check.road(x, "change 0 1 1 0");
        c.due("all", x.count(6), 3);
        RiddleRoad y = new RiddleRoad();
        c.wrongRoad(y, "change 0", 7);
    }

    private static void walkersByThen(Check c) {
        RiddleRoad x = Check.told("gate 0");
        c.wrongRoad(x, "price 0 0 0", 6);
        c.wrongRoad(x, "liar 0", 5);
        c.wrongRoad(x, "price 0 0 0;walker 1 1", 6);
        c.wrongRoad(x, "liar 0;walker 1 1", 5);
        c.due("told just ahead", Check.road(x, "walker 1 1;price 0 0 5;liar 0"), 2);
        c.due("price", x.price(0, 0), 5);
        c.due("liar", x.walker(0, 5), 1);
        c.wrongRoad(x, "price 1 0 0", 6);
        c.wrongRoad(x, "liar 1", 5);
        c.wrongRoad(x, "price 0 1 0;gate 0", 8);
    }

    private static void closedToNobodyYet(Check c) {
        RiddleRoad x = new RiddleRoad();
        c.due("nobody is there", Check.road(x, "gate 0 closed 0;gate 0 closed 7"), 1);
        c.wrongRoad(x, "gate 0 closed 8", 14);
        Check.road(x, "walker 0 0 knows 0 1");
        c.due("closed to the one who came", x.may(0, 0, false), false);
        c.due("not the other", x.may(0, 1, false), true);
    }

    private static void changeInPlace(Check c) {
        RiddleRoad x = Check.told("gate 0;gate 0;gate 0;change 0 1;change 2");
        c.due("the later one", x.count(6), 4);
        Check.road(x, "change 1");
        c.due("of a later text", x.count(6), 2);
        Check.road(x, "still");
        c.due("none", x.count(6), 0);
        Check.road(x, "still;change 0;still");
        c.due("none again", x.count(6), 0);
        Check.road(x, "still;change 0");
        c.due("one again", x.count(6), 1);
    }

    private static void digits(Check c) {
        RiddleRoad x = Check.told("gate 001 ;gate 02 double 000;gate 3 closed 007;walker 0004 005 knows 001 02;price 000 001 006;"
                + "wear 007;change 002 01;liar 000");
        c.due("toll", x.gate(1, 1), 2);
        c.due("other", x.gate(1, 2), 0);
        c.due("closed to", x.gate(2, 2), 7);
        c.due("coins", x.walker(0, 1), 4);
        c.due("ear", x.walker(0, 2), 5);
        c.due("knows", x.walker(0, 3), 6);
        c.due("price", x.price(0, 1), 6);
        c.due("wear", x.count(5), 7);
        c.due("change", x.count(6), 6);
        c.due("liar", x.walker(0, 5), 1);
        c.wrongRoad(x, "walker 00004 5", 7);
        c.wrongRoad(x, "walker 4 0005", 9);
        c.wrongRoad(x, "walker 4 5 knows 0001", 17);
        c.wrongRoad(x, "gate 0001", 5);
        c.wrongRoad(x, "gate 0 double 0000", 14);
        c.wrongRoad(x, "gate 0 closed 0000", 14);
        c.wrongRoad(x, "price 0000 0 0", 6);
        c.wrongRoad(x, "price 0 0000 0", 8);
        c.wrongRoad(x, "price 0 0 0000", 10);
        c.wrongRoad(x, "wear 0000", 5);
        c.wrongRoad(x, "change 0000", 7);
        c.wrongRoad(x, "change 0 0000", 9);
        c.wrongRoad(x, "liar 0000", 5);
    }
}
