import java.util.NoSuchElementException;

/** The edges that the promises themselves name, one sentence after the other: each promise has one at least. */
public final class EdgeCallsTest {
    private static final Class<IndexOutOfBoundsException> NO_SUCH = IndexOutOfBoundsException.class;
    private static final Class<IllegalArgumentException> WRONG = IllegalArgumentException.class;
    private static final Class<IllegalStateException> REFUSED = IllegalStateException.class;
    private static final Class<UnsupportedOperationException> FULL = UnsupportedOperationException.class;
    private static final Class<NoSuchElementException> NO_WHAT = NoSuchElementException.class;
    private static final int[] NONE_OF_THREE = {-1, 3, 4, 12, Integer.MIN_VALUE, Integer.MAX_VALUE};
    private static final String ROAD = "gate 1;gate 2 double 0;gate 3 closed 2;walker 20 50 knows 0 1;walker 30 0 knows 2;walker 9999 0;"
            + "price 0 0 5;price 1 2 7;change 1";

    interface OfOne {
        void call(RiddleRoad x, int n);
    }

    public static void main(String[] args) {
        Check c = new Check();
        sentences(c);
        for (int promise = 1; promise <= 35; promise++) {
            c.promised(promise);
        }
        c.close();
    }

    static void sentences(Check c) {
        c.sentence("An object is used for at most 512 calls after it has been made; what later calls answer is free.",
                EdgeCallsTest::fiveHundredAndTwelve);
        told(c);
        looks(c);
        acts(c);
        plans(c);
        chains(c);
        turns(c);
    }

    private static void told(Check c) {
        c.sentence("`RiddleRoad()`: Nothing told.", EdgeCallsTest::nothingTold);
        c.sentence("Twenty bytes come behind the TAPE, of each number the highest first: how many it has;", EdgeCallsTest::twentyBytes);
        c.sentence("NONE, and none come, if it would have more than 400.", EdgeCallsTest::fullTape);
        c.sentence("The TAPE has its first n bytes alone: true;", EdgeCallsTest::firstBytes);
        c.sentence("false, and nothing happens, if it has fewer, or n is below 0.", EdgeCallsTest::noSuchEnd);
        c.sentence("Uses the TAPE up: a text of THE ROAD: how many texts there are.", EdgeCallsTest::roadUsesTape);
        c.sentence("IllegalArgumentException: it is wrong; UnsupportedOperationException: there are 10.", EdgeCallsTest::wrongRoads);
        c.sentence("Uses the TAPE up: LAW: how many LINES. IllegalArgumentException: the text is wrong.", EdgeCallsTest::lawUsesTape);
        c.sentence("The first wrong byte of the latest text that was read; NONE without one, and ahead of any.",
                EdgeCallsTest::faults);
    }

    private static void looks(Check c) {
        c.sentence("Of a GATE what 0 KIND, 1 TOLL, 2 OTHER or the WALKER to whom it is closed (NONE)", EdgeCallsTest::otherOrNone);
        c.sentence("3 how many WALKERS are AT it, 4 how many have its ANSWER,", EdgeCallsTest::noneToAll);
        c.sentence("5 1 if it is of CHANGE. NoSuchElementException: another what.", EdgeCallsTest::gateWhat);
        c.sentence("Of a WALKER what 0 AT, 1 COINS, 2 EAR, 3 ANSWERS that one has, as bits,", EdgeCallsTest::walkerLooks);
        c.sentence("4 those that are TRUE, 5 1 for a LIAR. NoSuchElementException: another what.", EdgeCallsTest::walkerWhat);
        c.sentence("Since what DAY a WALKER has an ANSWER; NONE.", EdgeCallsTest::sinceNone);
        c.sentence("PRICE; NONE: it is not for sale.", EdgeCallsTest::priceNone);
        c.sentence("MAY PASS, by what one has (sure false), or by what is TRUE.", EdgeCallsTest::maySure);
        c.sentence("`int chance(int walker, int gate) throws IndexOutOfBoundsException`: CHANCE.", EdgeCallsTest::chances);
    }

    private static void acts(Check c) {
        c.sentence("A PASS: where one is AT then. IllegalStateException.", EdgeCallsTest::passes);
        c.sentence("A GUESS: whether it was right. IllegalStateException: one is behind the last GATE.", EdgeCallsTest::guesses);
        c.sentence("SOLD: the PRICE. IllegalArgumentException: both are one; IllegalStateException.", EdgeCallsTest::sales);
        c.sentence("INN: how many ANSWERS came to be had by all together (one that comes to two WALKERS counts twice).",
                EdgeCallsTest::inns);
        c.sentence("`int inn(int walkers)`: INN: how many ANSWERS came to be had by all together (one that comes to two WALKERS counts twice). "
                + "(Bits of no WALKER count for nothing.)", EdgeCallsTest::innBits);
        c.sentence("WALK BACK: where one is AT then.", EdgeCallsTest::walksBack);
        c.sentence("So many DAYS more (1 to 99): the DAY. IllegalArgumentException: they are none.", EdgeCallsTest::days);
        c.sentence("SEED: what it was.", EdgeCallsTest::seeds);
    }

    private static void plans(Check c) {
        c.sentence("CHEAPEST: coins (set false), or the ANSWERS that are bought, as bits; NONE.", EdgeCallsTest::cheapest);
        c.sentence("IllegalArgumentException: T is none, or ahead of where one is.", EdgeCallsTest::cheapestNoGate);
        c.sentence("CONVOY: coins (set false), or the ANSWERS that are bought, as bits; NONE.", EdgeCallsTest::convoys);
        c.sentence("IllegalArgumentException: no WALKER is told, or T is not 0 to as many as there are GATES. "
                + "(Bits of no WALKER count for nothing.)", EdgeCallsTest::convoyOfNone);
        c.sentence("TRIES; NONE. IllegalArgumentException: millionths are not 0 to 1000000.", EdgeCallsTest::tries);
        c.sentence("BRING, as bits; NONE. (Bits of no GATE count for nothing.)", EdgeCallsTest::brings);
        c.sentence("`int apart(int gate) throws IndexOutOfBoundsException`: APART, as bits.", EdgeCallsTest::aparts);
        c.sentence("Uses the TAPE up: LIE (of each GATE a byte: T, F or ?), as bits.", EdgeCallsTest::lieUsesTape);
        c.sentence("IllegalArgumentException: the TAPE is not that, or E is not 0 to 12.", EdgeCallsTest::wrongLies);
        c.sentence("MONDAY, as bits. IllegalArgumentException: N is not 0 to 12, or more than there are GATES.",
                EdgeCallsTest::mondays);
    }

    private static void chains(Check c) {
        c.sentence("Uses the TAPE up: a CHAIN: its number.", EdgeCallsTest::chainUsesTape);
        c.sentence("IllegalArgumentException: not just so many letters as there are GATES; UnsupportedOperationException: there are 6.",
                EdgeCallsTest::wrongChains);
        c.sentence("The letter of a CHAIN at a GATE, as a byte; NONE, if it was told when there were fewer GATES.",
                EdgeCallsTest::letters);
        c.sentence("All CHAINS are gone: how many there were.", EdgeCallsTest::forgets);
        c.sentence("QUESTIONS (first false), or FIRST (NONE, if none is needed); NONE.", EdgeCallsTest::questions);
        c.sentence("(Without two CHAINS none are needed: 0.", EdgeCallsTest::withoutTwo);
        c.sentence("At a GATE that some of all CHAINS (also of those that are out already) have no letter for one does not ask.)",
                EdgeCallsTest::shortChains);
    }

    private static void turns(Check c) {
        c.sentence("DRAWN DAYS (1 to 99): how many PASSES came there (not CAUGHT). IllegalArgumentException: they are none.",
                EdgeCallsTest::lives);
        c.sentence("UNDONE: whether there was one.", EdgeCallsTest::undone);
        c.sentence("THE IMAGE is kept.", EdgeCallsTest::kept);
        c.sentence("One goes back to THE IMAGE: true; false, and nothing happens, if none was kept.", EdgeCallsTest::back);
        c.sentence("0 GATES, 1 WALKERS, 2 texts of THE ROAD,", EdgeCallsTest::countsOfTexts);
        c.sentence("3 LINES of LAW (NONE without one)", EdgeCallsTest::linesOfLaw);
        c.sentence("4 DAY, 5 WEAR, 6 CHANGE, 7 THE CHEST, 8 COINS of all, 9 CHAINS,", EdgeCallsTest::countsOfAll);
        c.sentence("10 acts that can be UNDONE, 11 WALKERS behind the last GATE, 12 ANSWERS that all have together.",
                EdgeCallsTest::lastCounts);
        c.sentence("12 ANSWERS that all have together. NONE for another what.", EdgeCallsTest::countWhat);
    }

    private static void none(Check c, String what, OfOne call) {
        RiddleRoad x = Check.told(ROAD);
        for (int n : NONE_OF_THREE) {
            c.refused(what + " " + n, NO_SUCH, () -> call.call(x, n));
        }
    }

    /** Feeds, end and text are four calls; the 512th is as good as the others. */
    private static void fiveHundredAndTwelve(Check c) {
        RiddleRoad x = new RiddleRoad();
        x.feed(0x67617465, 0x20303b77, 0x616c6b65, 0x72203939, 0x39392030);
        x.feed(0x206b6e6f, 0x77732030, 0, 0, 0);
        x.end(28);
        c.due("call 4", x.road(), 1);
        c.due("call 5", x.live(99), 1);
        for (int call = 6; call <= 510; call++) {
            c.due("call " + call, x.live(99), 0);
        }
        c.due("call 511", x.days(99), 507 * 99);
        c.due("call 512", x.walker(0, 0), 1);
    }

    private static void nothingTold(Check c) {
        RiddleRoad x = new RiddleRoad();
        int[] due = {0, 0, 0, -1, 0, 0, 0, 0, 0, 0, 0, 0, 0};
        for (int what = 0; what < due.length; what++) {
            c.due("count " + what, x.count(what), due[what]);
        }
        c.due("fault", x.fault(), -1);
        c.due("tape", Check.taped(x, 0), true);
        c.due("undo", x.undo(), false);
        c.due("back", x.back(), false);
        c.due("bring", x.bring(-1), 0);
        c.due("monday", x.monday(0), 0);
        c.due("questions", x.questions(false), 0);
        c.due("first question", x.questions(true), -1);
        c.due("forget", x.forget(), 0);
        c.due("an inn", x.inn(-1), 0);
        c.due("it is remembered", x.undo(), true);
        c.due("a lie of nothing", x.lie(0), 0);
        c.due("a chain of nothing", x.chain(), 0);
        c.due("a drawn day", x.live(1), 0);
        c.due("a day", x.days(1), 2);
        c.due("an empty law", x.law(), 0);
        c.due("an empty road", x.road(), 1);
        c.refused("no gate", NO_SUCH, () -> x.gate(0, 0));
        c.refused("no walker", NO_SUCH, () -> x.walker(0, 0));
        c.refused("no pass", NO_SUCH, () -> x.pass(0));
        c.refused("no guess", NO_SUCH, () -> x.guess(0));
        c.refused("no sale", NO_SUCH, () -> x.sell(0, 0, 0));
        c.refused("no way", NO_SUCH, () -> x.cheapest(0, 0, true));
        c.refused("no convoy", WRONG, () -> x.convoy(-1, 0, true));
        c.refused("no gate to keep from", NO_SUCH, () -> x.apart(0));
        c.refused("no letter", NO_SUCH, () -> x.letter(0, 0));
        c.due("seed", x.seed(0), 1);
    }

    private static void twentyBytes(Check c) {
        RiddleRoad x = new RiddleRoad();
        c.due("twenty", x.feed('g' << 24 | 'a' << 16 | 't' << 8 | 'e', ' ' << 24 | '1' << 16 | '2' << 8 | ';',
                'g' << 24 | 'a' << 16 | 't' << 8 | 'e', ' ' << 24 | '3' << 16 | '4' << 8 | 'b', 'l' << 24 | 'i' << 16 | 'n' << 8 | 'd'), 20);
        c.due("they are a text", x.road(), 1);
        c.due("toll of 0", x.gate(0, 1), 12);
        c.due("toll of 1", x.gate(1, 1), 34);
        c.due("kind of 1", x.gate(1, 0), 2);
        c.due("twenty again", x.feed(-1, -1, -1, -1, -1), 20);
        c.due("forty", x.feed(0, 0, 0, 0, 0), 40);
        c.due("twenty-one", x.end(21) ? x.feed(0, 0, 0, 0, 0) - 20 : 0, 21);
        RiddleRoad y = Check.told("gate 0;gate 0");
        y.feed('T' << 24 | 'F' << 16, -1, -1, -1, -1);
        y.end(2);
        c.due("the highest is the first", y.lie(0), 2);
        RiddleRoad z = new RiddleRoad();
        z.feed(' ' << 24 | ' ' << 16 | ' ' << 8 | 255, 0, 0, 0, 0);
        c.refused("a byte above 127", WRONG, z::road);
        c.due("it is the fourth", z.fault(), 3);
        z.feed(' ' << 24 | ' ' << 16 | ' ' << 8 | ' ', 0x80000000, 0, 0, 0);
        c.refused("the sign of a number", WRONG, z::road);
        c.due("it is the fifth byte", z.fault(), 4);
    }

    private static void fullTape(Check c) {
        RiddleRoad x = new RiddleRoad();
        for (int n = 20; n <= 400; n += 20) {
            c.due("feed to " + n, x.feed(0x20202020, 0x20202020, 0x20202020, 0x20202020, 0x20202020), n);
        }
        c.due("no more", x.feed(0, 0, 0, 0, 0), -1);
        c.due("none came", Check.taped(x, 400), true);
        x.end(381);
        c.due("a byte too many", x.feed(0, 0, 0, 0, 0), -1);
        c.due("none came to these", Check.taped(x, 381), true);
        x.end(380);
        c.due("just so many", x.feed(0x20202020, 0x20202020, 0x20202020, 0x20202020, 0x20202020), 400);
        c.due("all blanks", x.road(), 1);
        c.wrongRoad(x, ";".repeat(400), 0);
        c.wrongLaw(x, "(".repeat(400), 0);
        c.wrongRoad(x, "wear 7" + " ".repeat(393) + ";", 400);
        c.due("the last byte of all", Check.road(x, " ".repeat(393) + "wear 07"), 2);
        c.due("was read", x.count(5), 7);
        c.due("room again", x.feed(0, 0, 0, 0, 0), 20);
    }

    private static void firstBytes(Check c) {
        RiddleRoad x = new RiddleRoad();
        Check.put(x, "wear 12 and more");
        c.due("all of them", x.end(16), true);
        c.due("the first seven", x.end(7), true);
        c.due("seven", Check.taped(x, 7), true);
        x.road();
        c.due("the text of these", x.count(5), 12);
        Check.put(x, "wear 34");
        c.due("none of them", x.end(0), true);
        c.due("none", Check.taped(x, 0), true);
        c.due("of an empty tape", x.end(0), true);
        c.due("an empty text", x.road(), 2);
        c.due("no new wear", x.count(5), 12);
    }

    private static void noSuchEnd(Check c) {
        RiddleRoad x = new RiddleRoad();
        int[] none = {-1, 8, 20, 400, Integer.MIN_VALUE, Integer.MAX_VALUE};
        Check.put(x, "wear 12");
        for (int n : none) {
            c.due("end " + n, x.end(n), false);
        }
        c.due("nothing happened", Check.taped(x, 7), true);
        x.road();
        c.due("the text is there", x.count(5), 12);
        c.due("fewer than 1", x.end(1), false);
    }

    private static void roadUsesTape(Check c) {
        RiddleRoad x = new RiddleRoad();
        for (int i = 1; i <= 10; i++) {
            c.due("texts", Check.road(x, "wear " + i), i);
            c.due("used up", Check.taped(x, 0), true);
        }
        c.refused("wrong", WRONG, () -> Check.road(x, "wear"));
        c.due("used up by a wrong one", Check.taped(x, 0), true);
        c.refused("too many", FULL, () -> Check.road(x, "wear 11"));
        c.due("used up by one too many", Check.taped(x, 0), true);
    }

    private static void wrongRoads(Check c) {
        RiddleRoad x = new RiddleRoad();
        c.wrongRoad(x, "x", 0);
        for (int i = 1; i <= 10; i++) {
            Check.road(x, "wear " + i);
        }
        c.wrongRoad(x, "still;x", 6);
        c.refused("right, but the 11th", FULL, () -> Check.road(x, "wear 11"));
        c.due("it was read, too", x.fault(), -1);
        c.due("not told", x.count(5), 10);
    }

    private static void lawUsesTape(Check c) {
        RiddleRoad x = new RiddleRoad();
        c.due("one", Check.law(x, "hard 1"), 1);
        c.due("used up", Check.taped(x, 0), true);
        c.due("none", x.law(), 0);
        c.due("twelve", Check.law(x, "never;".repeat(11) + "never"), 12);
        c.refused("wrong", WRONG, () -> Check.law(x, "never;"));
        c.due("used up by a wrong one", Check.taped(x, 0), true);
        c.due("twelve still", x.count(3), 12);
    }

    private static void faults(Check c) {
        RiddleRoad x = new RiddleRoad();
        c.due("ahead of any", x.fault(), -1);
        c.wrongRoad(x, "still;x", 6);
        c.wrongLaw(x, "y", 0);
        c.wrongRoad(x, "gate", 4);
        Check.law(x, "");
        c.due("a right law has none", x.fault(), -1);
        c.wrongLaw(x, "never never", 6);
        Check.road(x, "");
        c.due("a right road has none", x.fault(), -1);
        c.wrongLaw(x, "  x", 2);
        x.chain();
        c.due("a chain is no text with a fault", x.fault(), 2);
        x.lie(0);
        c.due("nor is a lie", x.fault(), 2);
        c.refused("nor a wrong chain", WRONG, () -> Check.chain(x, "a"));
        c.due("the fault stays", x.fault(), 2);
    }

    private static void otherOrNone(Check c) {
        RiddleRoad x = Check.told("gate 0;gate 0 double 0;gate 0 blind;gate 0 singing;gate 0 closed 0;gate 0 false");
        int[] due = {-1, 0, -1, -1, 0, -1};
        for (int g = 0; g < 6; g++) {
            c.due("other of " + g, x.gate(g, 2), due[g]);
        }
        none(c, "gate", (y, n) -> y.gate(n, 2));
    }

    private static void noneToAll(Check c) {
        RiddleRoad x = Check.told("gate 0;gate 0");
        c.due("nobody is there", x.gate(0, 3), 0);
        c.due("nobody has it", x.gate(0, 4), 0);
        Check.road(x, "walker 0 0 knows 0;".repeat(7) + "walker 0 0 knows 0");
        c.due("all eight are at the first", x.gate(0, 3), 8);
        c.due("all eight have it", x.gate(0, 4), 8);
        c.due("nobody is at the last", x.gate(1, 3), 0);
        c.due("nobody has that", x.gate(1, 4), 0);
        x.pass(7);
        x.pass(0);
        c.due("six are left", x.gate(0, 3), 6);
        c.due("two went on", x.gate(1, 3), 2);
        c.due("all have it still", x.gate(0, 4), 8);
    }

    private static void gateWhat(Check c) {
        RiddleRoad x = Check.told(ROAD);
        c.due("of change", x.gate(1, 5), 1);
        c.due("not of it", x.gate(2, 5), 0);
        int[] none = {-1, 6, 7, Integer.MIN_VALUE, Integer.MAX_VALUE};
        for (int what : none) {
            c.refused("what " + what, NO_WHAT, () -> x.gate(0, what));
            c.refused("no gate, and what " + what, NO_SUCH, () -> x.gate(3, what));
        }
    }

    private static void walkerLooks(Check c) {
        RiddleRoad x = Check.told(ROAD);
        int[][] due = {{0, 20, 50, 3}, {0, 30, 0, 4}, {0, 9999, 0, 0}};
        for (int w = 0; w < 3; w++) {
            for (int what = 0; what < 4; what++) {
                c.due("walker " + w + " " + what, x.walker(w, what), due[w][what]);
            }
        }
        x.pass(0);
        x.sell(0, 1, 0);
        c.due("at the next one", x.walker(0, 0), 1);
        c.due("a toll less, a price more", x.walker(0, 1), 24);
        c.due("a price less", x.walker(1, 1), 25);
        c.due("an answer more", x.walker(1, 3), 5);
        c.due("the ear stays", x.walker(0, 2), 50);
    }

    private static void walkerWhat(Check c) {
        RiddleRoad x = Check.told(ROAD + ";liar 2");
        c.due("true ones", x.walker(0, 4), 3);
        c.due("no liar", x.walker(1, 5), 0);
        c.due("a liar", x.walker(2, 5), 1);
        Check.road(x, "liar 0");
        c.due("two liars", x.walker(0, 5) + x.walker(2, 5), 2);
        int[] none = {-1, 6, 7, Integer.MIN_VALUE, Integer.MAX_VALUE};
        for (int what : none) {
            c.refused("what " + what, NO_WHAT, () -> x.walker(0, what));
            c.refused("no walker, and what " + what, NO_SUCH, () -> x.walker(3, what));
        }
        none(c, "walker", (y, n) -> y.walker(n, 0));
    }

    private static void sinceNone(Check c) {
        RiddleRoad x = Check.told(ROAD);
        x.days(1);
        c.due("since the first day", x.since(0, 0), 0);
        c.due("not had", x.since(0, 2), -1);
        x.inn(3);
        c.due("since this day", x.since(0, 2), 1);
        x.undo();
        c.due("not had again", x.since(0, 2), -1);
        x.days(6);
        c.due("forgotten", x.since(0, 1), -1);
        none(c, "since of walker", (y, n) -> y.since(n, 0));
        none(c, "since of gate", (y, n) -> y.since(0, n));
    }

    private static void priceNone(Check c) {
        RiddleRoad x = Check.told(ROAD + ";price 2 2 0");
        c.due("a price", x.price(0, 0), 5);
        c.due("not for sale", x.price(0, 1), -1);
        c.due("for nothing, by one who has it not", x.price(2, 2), 0);
        none(c, "price of walker", (y, n) -> y.price(n, 0));
        none(c, "price of gate", (y, n) -> y.price(0, n));
    }

    private static void maySure(Check c) {
        RiddleRoad x = Check.told(ROAD + ";liar 0");
        x.sell(0, 2, 0);
        c.due("by what one has", x.may(2, 0, false), true);
        c.due("by what is true", x.may(2, 0, true), false);
        c.due("by both", x.may(0, 1, true), true);
        c.due("by neither", x.may(1, 0, false) || x.may(1, 0, true), false);
        none(c, "may of walker", (y, n) -> y.may(n, 0, true));
        none(c, "may of gate", (y, n) -> y.may(0, n, false));
    }

    private static void chances(Check c) {
        RiddleRoad x = Check.told(ROAD);
        c.due("an ear", x.chance(0, 2), 50);
        c.due("no ear", x.chance(1, 0), 0);
        Check.law(x, "hard 50 if gate < 1;never if gate > 1");
        c.due("just none", x.chance(0, 0), 0);
        c.due("no line", x.chance(0, 1), 50);
        c.due("never", x.chance(0, 2), 0);
        none(c, "chance of walker", (y, n) -> y.chance(n, 0));
        none(c, "chance at gate", (y, n) -> y.chance(0, n));
    }

    private static void passes(Check c) {
        RiddleRoad x = Check.told(ROAD);
        c.due("the next one", x.pass(0), 1);
        c.due("the one behind that", x.pass(0), 2);
        c.refused("without an answer", REFUSED, () -> x.pass(0));
        none(c, "pass", (y, n) -> y.pass(n));
        RiddleRoad z = Check.told("gate 0;gate 0;walker 0 0 knows 0 1;walker 0 0 knows 0;liar 0;price 0 1 0");
        z.sell(0, 1, 1);
        z.pass(1);
        c.due("caught", z.pass(1), 0);
        z.pass(0);
        c.due("behind the last", z.pass(0), 2);
        c.refused("no further", REFUSED, () -> z.pass(0));
    }

    private static void guesses(Check c) {
        RiddleRoad x = Check.told("gate 0;walker 1 39;walker 1 38;walker 0 0 knows 0");
        c.due("right", x.guess(0), true);
        x.seed(1);
        c.due("wrong", x.guess(1), false);
        x.pass(0);
        c.refused("behind the last gate", REFUSED, () -> x.guess(0));
        none(c, "guess", (y, n) -> y.guess(n));
        RiddleRoad z = Check.told("walker 1 99");
        c.refused("without a gate", REFUSED, () -> z.guess(0));
        c.due("no draw", z.seed(0), 1);
    }

    private static void sales(Check c) {
        RiddleRoad x = Check.told(ROAD);
        c.due("the price", x.sell(0, 2, 0), 5);
        c.refused("both are one", WRONG, () -> x.sell(0, 0, 0));
        c.refused("both are one, without a price", WRONG, () -> x.sell(2, 2, 2));
        c.refused("had already", REFUSED, () -> x.sell(0, 2, 0));
        none(c, "seller", (y, n) -> y.sell(n, 0, 0));
        none(c, "buyer", (y, n) -> y.sell(0, n, 0));
        none(c, "sale of", (y, n) -> y.sell(0, 1, n));
        none(c, "sale by one to the same of", (y, n) -> y.sell(0, 0, n));
        none(c, "sale by none to the same", (y, n) -> y.sell(n, n, 0));
    }

    private static void inns(Check c) {
        RiddleRoad x = Check.told("gate 0;gate 0;walker 0 0 knows 0 1;walker 0 0;walker 0 0;walker 0 0 knows 1");
        c.due("none", x.inn(6), 0);
        c.due("one", x.inn(9), 1);
        c.due("two to two", x.inn(7), 4);
        c.due("no more", x.inn(15), 0);
    }

    private static void innBits(Check c) {
        RiddleRoad x = Check.told("gate 0;walker 0 0 knows 0;walker 0 0");
        c.due("no walker's bits", x.inn(~3), 0);
        c.due("one's and no walker's", x.inn(~3 | 2), 0);
        c.due("nothing came", x.walker(1, 3), 0);
        c.due("all bits", x.inn(-1), 1);
        Check.road(x, "walker 0 0");
        c.due("the later one was not there", x.walker(2, 3), 0);
        c.due("now that bit counts", x.inn(5), 1);
    }

    private static void walksBack(Check c) {
        RiddleRoad x = Check.told(ROAD);
        x.pass(0);
        x.pass(0);
        c.due("from 2", x.walkBack(0), 1);
        c.due("there one is", x.walker(0, 0), 1);
        c.due("from 1", x.walkBack(0), 0);
        c.due("from 0", x.walkBack(0), 0);
        none(c, "walk back", (y, n) -> y.walkBack(n));
    }

    private static void days(Check c) {
        RiddleRoad x = Check.told(ROAD);
        int[] none = {0, -1, 100, Integer.MIN_VALUE, Integer.MAX_VALUE};
        for (int n : none) {
            c.refused("days " + n, WRONG, () -> x.days(n));
        }
        c.due("no day went", x.count(4), 0);
        c.due("one", x.days(1), 1);
        c.due("99", x.days(99), 100);
        c.due("99 more", x.days(99), 199);
    }

    private static void seeds(Check c) {
        RiddleRoad x = new RiddleRoad();
        int[] seeds = {0, -1, Integer.MIN_VALUE, Integer.MAX_VALUE, 1};
        int before = 1;
        for (int seed : seeds) {
            c.due("ahead of " + seed, x.seed(seed), before);
            before = seed;
        }
    }

    private static void cheapest(Check c) {
        RiddleRoad x = Check.told(ROAD);
        c.due("coins", x.cheapest(1, 1, false), 6);
        c.due("set", x.cheapest(1, 1, true), 1);
        c.due("no coins", x.cheapest(1, 0, false), 0);
        c.due("no set", x.cheapest(1, 0, true), 0);
        c.due("nobody sells, coins", x.cheapest(1, 2, false), -1);
        c.due("nobody sells, set", x.cheapest(1, 2, true), -1);
        none(c, "cheapest of walker", (y, n) -> y.cheapest(n, 0, true));
    }

    private static void cheapestNoGate(Check c) {
        RiddleRoad x = Check.told(ROAD);
        x.pass(0);
        int[] none = {-1, 4, 5, 12, Integer.MIN_VALUE, Integer.MAX_VALUE};
        for (int to : none) {
            c.refused("to " + to, WRONG, () -> x.cheapest(0, to, false));
            c.refused("no walker, to " + to, NO_SUCH, () -> x.cheapest(3, to, false));
        }
        c.refused("ahead", WRONG, () -> x.cheapest(0, 0, false));
        c.due("where one is", x.cheapest(0, 1, false), 0);
        c.due("another is still there", x.cheapest(1, 0, false), 0);
        c.due("behind the last", x.cheapest(0, 3, true), 4);
    }

    private static void convoys(Check c) {
        RiddleRoad x = Check.told(ROAD);
        c.due("coins", x.convoy(1, 3, false), 13);
        c.due("set", x.convoy(1, 3, true), 4);
        c.due("no coins", x.convoy(7, 0, false), 0);
        c.due("no set", x.convoy(7, 0, true), 0);
        c.due("closed to one, coins", x.convoy(7, 3, false), -1);
        c.due("closed to one, set", x.convoy(7, 3, true), -1);
        c.due("nobody sells", x.convoy(2, 2, true), -1);
    }

    private static void convoyOfNone(Check c) {
        RiddleRoad x = Check.told(ROAD);
        c.refused("nobody", WRONG, () -> x.convoy(0, 0, true));
        c.refused("nobody of these", WRONG, () -> x.convoy(~7, 0, true));
        c.refused("nobody, and no gate", WRONG, () -> x.convoy(8, 4, true));
        int[] none = {-1, 4, Integer.MIN_VALUE, Integer.MAX_VALUE};
        for (int to : none) {
            c.refused("to " + to, WRONG, () -> x.convoy(1, to, true));
        }
        c.due("bits of no walker", x.convoy(~7 | 1, 3, false), 13);
        c.due("as many as there are", x.convoy(1, 3, true), 4);
    }

    private static void tries(Check c) {
        RiddleRoad x = Check.told(ROAD);
        c.due("one", x.tries(0, 0, 500000), 1);
        c.due("none at all", x.tries(0, 0, 1000000), 0);
        c.due("to nothing", x.tries(0, 0, 0), 30);
        c.due("no number is enough", x.tries(1, 0, 0), -1);
        int[] none = {-1, 1000001, Integer.MIN_VALUE, Integer.MAX_VALUE};
        for (int millionths : none) {
            c.refused("millionths " + millionths, WRONG, () -> x.tries(0, 0, millionths));
            c.refused("no walker, millionths " + millionths, NO_SUCH, () -> x.tries(3, 0, millionths));
            c.refused("no gate, millionths " + millionths, NO_SUCH, () -> x.tries(0, 3, millionths));
        }
        none(c, "tries of walker", (y, n) -> y.tries(n, 0, 0));
        none(c, "tries at gate", (y, n) -> y.tries(0, n, 0));
    }

    private static void brings(Check c) {
        RiddleRoad x = Check.told(ROAD);
        c.due("one", x.bring(3), 1);
        c.due("two", x.bring(7), 3);
        c.due("nobody", x.bring(0), 0);
        c.due("bits of no gate", x.bring(~7), 0);
        c.due("and one of a gate", x.bring(~7 | 4), 2);
        RiddleRoad y = Check.told("gate 0;walker 0 0");
        c.due("nobody has it", y.bring(1), -1);
        c.due("all bits, and nobody has it", y.bring(-1), -1);
    }

    private static void aparts(Check c) {
        RiddleRoad x = Check.told(ROAD);
        c.due("one", x.apart(1), 1);
        c.due("another", x.apart(2), 2);
        x.inn(3);
        c.due("both", x.apart(2), 3);
        none(c, "apart", (y, n) -> y.apart(n));
    }

    private static void lieUsesTape(Check c) {
        RiddleRoad x = Check.told(ROAD);
        c.due("a lie", Check.lie(x, "TF?", 0), 2);
        c.due("used up", Check.taped(x, 0), true);
        c.refused("a wrong one", WRONG, () -> Check.lie(x, "TF", 0));
        c.due("used up by a wrong one", Check.taped(x, 0), true);
        c.refused("too many keepers", WRONG, () -> Check.lie(x, "TFT", 13));
        c.due("used up by these", Check.taped(x, 0), true);
    }

    private static void wrongLies(Check c) {
        RiddleRoad x = Check.told(ROAD);
        String[] wrong = {"", "TF", "TFTF", "TFt", "fTT", "T T", "TF!", "TFx", "TF\u00ff", "TF\u0000", "TFTFTFTFTFTFTFTFTFTF"};
        for (String said : wrong) {
            c.refused("lie \"" + said + "\"", WRONG, () -> Check.lie(x, said, 0));
        }
        int[] none = {-1, 13, Integer.MIN_VALUE, Integer.MAX_VALUE};
        for (int e : none) {
            c.refused("keepers " + e, WRONG, () -> Check.lie(x, "TFT", e));
        }
        c.due("no keepers", Check.lie(x, "TFT", 0), 2);
        c.due("twelve keepers", Check.lie(x, "TFT", 12), 7);
    }

    private static void mondays(Check c) {
        RiddleRoad x = Check.told(ROAD);
        int[] none = {-1, 4, 12, 13, Integer.MIN_VALUE, Integer.MAX_VALUE};
        for (int n : none) {
            c.refused("monday " + n, WRONG, () -> x.monday(n));
        }
        c.due("none", x.monday(0), 0);
        c.due("one", x.monday(1), 1);
        c.due("two", x.monday(2), 5);
        c.due("all", x.monday(3), 7);
    }

    private static void chainUsesTape(Check c) {
        RiddleRoad x = Check.told(ROAD);
        for (int i = 0; i < 6; i++) {
            c.due("its number", Check.chain(x, "abc"), i);
            c.due("used up", Check.taped(x, 0), true);
        }
        c.refused("one too many", FULL, () -> Check.chain(x, "abc"));
        c.due("used up by it", Check.taped(x, 0), true);
        c.refused("a wrong one", WRONG, () -> Check.chain(x, "ab"));
        c.due("used up by that", Check.taped(x, 0), true);
    }

    private static void wrongChains(Check c) {
        RiddleRoad x = Check.told(ROAD);
        c.refused("too few", WRONG, () -> Check.chain(x, "ab"));
        c.refused("none", WRONG, x::chain);
        c.refused("too many", WRONG, () -> Check.chain(x, "abcd"));
        c.refused("no letter", WRONG, () -> Check.chain(x, "ab1"));
        c.refused("a blank behind", WRONG, () -> Check.chain(x, "abc "));
        for (int i = 0; i < 6; i++) {
            Check.chain(x, "abc");
        }
        c.refused("wrong, and the 7th", WRONG, () -> Check.chain(x, "abcd"));
        c.refused("the 7th", FULL, () -> Check.chain(x, "abc"));
        c.due("six", x.count(9), 6);
    }

    private static void letters(Check c) {
        RiddleRoad x = Check.told("gate 0");
        Check.chain(x, "z");
        Check.road(x, "gate 0;gate 0");
        Check.chain(x, "abc");
        c.due("as a byte", x.letter(0, 0), 122);
        c.due("told with fewer gates", x.letter(0, 1), -1);
        c.due("at the last, too", x.letter(0, 2), -1);
        c.due("told with all", x.letter(1, 2), 99);
        int[] none = {-1, 2, 6, Integer.MIN_VALUE, Integer.MAX_VALUE};
        for (int chain : none) {
            c.refused("chain " + chain, NO_SUCH, () -> x.letter(chain, 0));
        }
        for (int gate : NONE_OF_THREE) {
            c.refused("gate " + gate, NO_SUCH, () -> x.letter(1, gate));
        }
        x.forget();
        c.refused("forgotten", NO_SUCH, () -> x.letter(0, 0));
    }

    private static void forgets(Check c) {
        RiddleRoad x = Check.told(ROAD);
        c.due("none", x.forget(), 0);
        for (int i = 0; i < 6; i++) {
            Check.chain(x, "abc");
        }
        c.due("six", x.forget(), 6);
        c.due("they are gone", x.count(9), 0);
        c.due("no question is needed", x.questions(false), 0);
        c.due("none again", x.forget(), 0);
    }

    private static void questions(Check c) {
        RiddleRoad x = Check.told(ROAD);
        Check.chain(x, "abc");
        Check.chain(x, "abd");
        c.due("one", x.questions(false), 1);
        c.due("at the last", x.questions(true), 2);
        Check.chain(x, "abd");
        c.due("two are alike", x.questions(false), -1);
        c.due("no first", x.questions(true), -1);
    }

    private static void withoutTwo(Check c) {
        RiddleRoad x = Check.told(ROAD);
        c.due("without one", x.questions(false), 0);
        c.due("no first without one", x.questions(true), -1);
        Check.chain(x, "abc");
        c.due("with one", x.questions(false), 0);
        c.due("no first with one", x.questions(true), -1);
        Check.chain(x, "bbc");
        c.due("with two", x.questions(false), 1);
        c.due("the first with two", x.questions(true), 0);
    }

    private static void shortChains(Check c) {
        RiddleRoad x = Check.told("gate 0");
        Check.chain(x, "a");
        Check.road(x, "gate 0");
        Check.chain(x, "ba");
        c.due("by the letter of both", x.questions(false), 1);
        Check.chain(x, "bb");
        c.due("the short one is out by the first, but the second is not asked", x.questions(false), -1);
        c.due("no first", x.questions(true), -1);
        x.forget();
        Check.chain(x, "ba");
        Check.chain(x, "bb");
        c.due("all have one", x.questions(true), 1);
    }

    private static void lives(Check c) {
        RiddleRoad x = Check.told(ROAD);
        int[] none = {0, -1, 100, Integer.MIN_VALUE, Integer.MAX_VALUE};
        for (int n : none) {
            c.refused("live " + n, WRONG, () -> x.live(n));
        }
        c.due("no day went", x.count(4), 0);
        c.due("one day", x.live(1), 1);
        c.due("99 days", x.live(99) > 0, true);
        c.due("the day", x.count(4), 100);
        RiddleRoad y = Check.told("gate 0;walker 0 0 knows 0;walker 0 0;liar 0;price 0 0 0");
        y.sell(0, 1, 0);
        c.due("one who is caught does not count", y.live(1), 1);
        c.due("it was one", y.walker(1, 3), 0);
    }

    private static void undone(Check c) {
        RiddleRoad x = Check.told(ROAD);
        c.due("none", x.undo(), false);
        x.inn(0);
        x.pass(0);
        c.due("the pass", x.undo(), true);
        c.due("at 0", x.walker(0, 0), 0);
        c.due("the inn", x.undo(), true);
        c.due("no more", x.undo(), false);
    }

    private static void kept(Check c) {
        RiddleRoad x = Check.told(ROAD);
        x.image();
        x.pass(0);
        x.image();
        x.pass(0);
        c.due("back", x.back(), true);
        c.due("to the later one", x.walker(0, 0), 1);
        c.due("back again", x.back(), true);
        c.due("to the same", x.walker(0, 0), 1);
    }

    private static void back(Check c) {
        RiddleRoad x = Check.told(ROAD);
        x.pass(0);
        Check.chain(x, "abc");
        String before = Check.all(x);
        c.due("none was kept", x.back(), false);
        c.due("nothing happened", Check.all(x), before);
        c.due("the pass is remembered", x.count(10), 1);
        x.image();
        c.due("kept", x.back(), true);
        c.due("none is remembered", x.count(10), 0);
        c.due("a new object has none", new RiddleRoad().back(), false);
    }

    private static void counts(Check c, RiddleRoad x, int from, int... due) {
        for (int i = 0; i < due.length; i++) {
            c.due("count " + (from + i), x.count(from + i), due[i]);
        }
    }

    private static void countsOfTexts(Check c) {
        RiddleRoad x = new RiddleRoad();
        counts(c, x, 0, 0, 0, 0);
        Check.road(x, "gate 0;walker 1 1;gate 0");
        counts(c, x, 0, 2, 1, 1);
        Check.law(x, "never");
        Check.chain(x, "ab");
        c.wrongRoad(x, "gate 0;walker 1 1;gate", 22);
        counts(c, x, 0, 2, 1, 1);
        x.road();
        Check.road(x, "walker 1 1;walker 1 1");
        counts(c, x, 0, 2, 3, 3);
    }

    private static void countsOfAll(Check c) {
        RiddleRoad x = Check.told(ROAD + ";wear 60");
        counts(c, x, 4, 0, 60, 2, 0, 10049, 0);
        x.pass(0);
        Check.chain(x, "abc");
        Check.chain(x, "abc");
        counts(c, x, 4, 0, 60, 2, 1, 10048, 2);
        x.days(8);
        Check.road(x, "wear 0;change 2 0");
        x.forget();
        counts(c, x, 4, 8, 0, 5, 1, 10048, 0);
    }

    private static void linesOfLaw(Check c) {
        RiddleRoad x = new RiddleRoad();
        c.due("without a law", x.count(3), -1);
        c.wrongLaw(x, "never;", 6);
        c.due("still without one", x.count(3), -1);
        x.image();
        x.law();
        c.due("an empty one", x.count(3), 0);
        Check.law(x, "never;".repeat(11) + "never");
        c.due("twelve", x.count(3), 12);
        x.back();
        c.due("without one again", x.count(3), -1);
    }

    private static void lastCounts(Check c) {
        RiddleRoad x = Check.told("gate 0;gate 0;walker 0 0 knows 0;walker 0 0 knows 0 1;walker 0 0");
        c.due("no act", x.count(10), 0);
        c.due("none is behind", x.count(11), 0);
        c.due("three answers", x.count(12), 3);
        x.pass(1);
        x.pass(1);
        c.due("two acts", x.count(10), 2);
        c.due("one is behind", x.count(11), 1);
        x.inn(7);
        c.due("six answers", x.count(12), 6);
        for (int i = 0; i < 12; i++) {
            x.inn(0);
        }
        c.due("twelve acts at most", x.count(10), 12);
    }

    private static void countWhat(Check c) {
        RiddleRoad x = Check.told(ROAD);
        int[] none = {-1, 13, 14, 100, Integer.MIN_VALUE, Integer.MAX_VALUE};
        for (int what : none) {
            c.due("count " + what, x.count(what), -1);
        }
        c.due("the last that there is", x.count(12), 3);
    }
}
