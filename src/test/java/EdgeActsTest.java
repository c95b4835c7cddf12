/** The edges that Terms 2 names: who may pass, passes, guesses, sales, inns and days. */
public final class EdgeActsTest {
    private static final Class<IllegalStateException> REFUSED = IllegalStateException.class;

    public static void main(String[] args) {
        Check c = new Check();
        sentences(c);
        c.close();
    }

    static void sentences(Check c) {
        c.sentence("(FALSE ones are had, too: one does not know)", EdgeActsTest::falseOnesAreHad);
        c.sentence("MAY PASS GATE G, by what one has, and by what of it is TRUE:", EdgeActsTest::hadAndTrue);
        c.sentence("plain, singing, closed (unless one is that WALKER), false: the ANSWER of G;", EdgeActsTest::byItsOwn);
        c.sentence("double: that and the one of OTHER;", EdgeActsTest::byBoth);
        c.sentence("blind: the ANSWER of the GATE behind it (of the last one: its own).", EdgeActsTest::blind);
        c.sentence("A false GATE opens to a FALSE ANSWER as to a TRUE one (by what is TRUE, too).", EdgeActsTest::falseGate);
        c.sentence("A PASS: a WALKER at a GATE who MAY PASS it by what one has, and has TOLL in COINS: TOLL goes to THE CHEST;", EdgeActsTest::tollToTheCoin);
        c.sentence("if one MAY PASS it by what is TRUE, one is AT the next one,", EdgeActsTest::nextOne);
        c.sentence("else one is CAUGHT: AT GATE 0,", EdgeActsTest::caughtAtAnyGate);
        c.sentence("and those FALSE ANSWERS of one's that it asks for are forgotten.", EdgeActsTest::onlyFalseOnes);
        c.sentence("Else it is refused, also behind the last GATE.", EdgeActsTest::refusedPasses);
        c.sentence("At a singing GATE that opened all others who are AT it have its ANSWER then (if not yet)",
                EdgeActsTest::whoHears);
        c.sentence("TRUE as it was, since this DAY.", EdgeActsTest::whatIsHeard);
        c.sentence("A GUESS: a WALKER AT a GATE: DRAW modulo 100 below CHANCE:", EdgeActsTest::drawBelowChance);
        c.sentence("one has its ANSWER, TRUE, since this DAY (in place of what one had);", EdgeActsTest::guessInPlace);
        c.sentence("else a coin goes to THE CHEST, if there is one.", EdgeActsTest::lastCoin);
        c.sentence("DRAW: SEED is 1103515245 times SEED and 12345, as an int that goes round;", EdgeActsTest::seedGoesRound);
        c.sentence("bits 16 to 30", EdgeActsTest::drawBits);
        c.sentence("(SEED 1 at first).", EdgeActsTest::seedAtFirst);
        c.sentence("SOLD: by a WALKER who has the ANSWER and a PRICE for it, to another one who has it not:", EdgeActsTest::whoSells);
        c.sentence("COINS go over (9999 at most: else refused;", EdgeActsTest::fullPurse);
        c.sentence("refused, too, if there are not so many, or one of these is not so);", EdgeActsTest::refusedSales);
        c.sentence("it is TRUE as the seller's is, FALSE of a LIAR; since this DAY.", EdgeActsTest::truthOfSales);
        c.sentence("INN: all of a set of WALKERS have all ANSWERS then that one of them has:", EdgeActsTest::innOfSets);
        c.sentence("what one had stays as it was;", EdgeActsTest::innStays);
        c.sentence("what one had not is since this DAY, and TRUE, if some of those who had it had it TRUE.",
                EdgeActsTest::innTruth);
        c.sentence("WALK BACK: one GATE (0 at least).", EdgeActsTest::walkBack);
        c.sentence("A DAY more: DAY is 1 more; then, if that is 0 modulo 7, CHANGE; then WEAR.", EdgeActsTest::dayMore);
        c.sentence("COINS of all and THE CHEST are always what was told.", EdgeActsTest::coinsStay);
    }

    /** Walker 0 knows all and sells true ones, walker 1 likewise sells false ones, for nothing; walker 2 buys. */
    private static RiddleRoad lies(String gates, int n) {
        StringBuilder knows = new StringBuilder(" knows");
        for (int g = 0; g < n; g++) {
            knows.append(' ').append(g);
        }
        RiddleRoad x = Check.told(gates + ";walker 9 0" + knows + ";walker 9 0" + knows + ";walker 9 0;liar 1");
        StringBuilder prices = new StringBuilder("still");
        for (int g = 0; g < n; g++) {
            prices.append(";price 0 ").append(g).append(" 0;price 1 ").append(g).append(" 0");
        }
        Check.road(x, prices.toString());
        return x;
    }

    private static void mays(Check c, RiddleRoad x, int gate, int had, int sure) {
        for (int w = 0; w < x.count(1); w++) {
            c.due("may " + w + " " + gate, x.may(w, gate, false), (had >> w & 1) == 1);
            c.due("surely may " + w + " " + gate, x.may(w, gate, true), (sure >> w & 1) == 1);
        }
    }

    private static void falseOnesAreHad(Check c) {
        RiddleRoad x = lies("gate 0;gate 0", 2);
        Check.road(x, "price 2 0 0");
        Check.law(x, "never if known < 1");
        c.due("none known", x.chance(2, 0), 0);
        x.sell(1, 2, 0);
        c.due("had", x.walker(2, 3), 1);
        c.due("not true", x.walker(2, 4), 0);
        c.due("since", x.since(2, 0), 0);
        c.due("who have it", x.gate(0, 4), 3);
        c.due("answers of all", x.count(12), 5);
        c.due("one may pass", x.may(2, 0, false), true);
        c.due("none need be bought", x.cheapest(2, 1, true), 0);
        c.due("nor for a convoy", x.convoy(4, 1, true), 0);
        c.due("all three to be kept away", x.apart(0), 7);
        c.refused("nor can it be bought again", REFUSED, () -> x.sell(0, 2, 0));
        Check.law(x, "hard 0 if known > 0;never if known > 1");
        Check.road(x, "walker 0 77");
        c.due("it comes to one at an inn", x.inn(4 + 8), 1);
        c.due("as one that is known", x.chance(3, 0), 77);
        Check.law(x, "never if known > 0");
        c.due("which the law counts", x.chance(3, 0), 0);
        c.due("three sell it", x.monday(1), 1);
        Check.road(x, "walker 0 0");
        c.due("it is sold on", x.sell(2, 4, 0), 0);
    }

    /** Walker 2 has each answer true, or false, or not: all that can be of four gates. */
    private static void hadAndTrue(Check c) {
        int[] asked = {1, 3, 8, 8};
        for (int n = 0; n < 81; n++) {
            RiddleRoad x = lies("gate 0;gate 0 double 0;gate 0 blind;gate 0 false", 4);
            int had = 0;
            int sure = 0;
            for (int g = 0, rest = n; g < 4; g++, rest /= 3) {
                if (rest % 3 > 0) {
                    x.sell(rest % 3 - 1, 2, g);
                    had |= 1 << g;
                    sure |= rest % 3 == 1 ? 1 << g : 0;
                }
            }
            for (int g = 0; g < 4; g++) {
                c.due("may " + g + " with " + had, x.may(2, g, false), (asked[g] & ~had) == 0);
                c.due("surely may " + g + " with " + sure, x.may(2, g, true), (asked[g] & ~(g == 3 ? had : sure)) == 0);
            }
        }
    }

    private static void byItsOwn(Check c) {
        String[] kinds = {"", " singing", " closed 2", " false"};
        for (String kind : kinds) {
            RiddleRoad x = Check.told("gate 0;gate 0" + kind + ";gate 0;walker 0 0 knows 1;walker 0 0 knows 0 2;walker 0 0 knows 1");
            mays(c, x, 1, kind.startsWith(" closed") ? 1 : 5, kind.startsWith(" closed") ? 1 : 5);
        }
    }

    private static void byBoth(Check c) {
        RiddleRoad x = Check.told("gate 0;gate 0;gate 0 double 0;gate 0;walker 0 0 knows 2;walker 0 0 knows 0;"
                + "walker 0 0 knows 0 2;walker 0 0 knows 1 3;walker 0 0 knows 1 2 3");
        mays(c, x, 2, 4, 4);
        RiddleRoad y = lies("gate 0;gate 0 double 0", 2);
        y.sell(0, 2, 0);
        y.sell(1, 2, 1);
        mays(c, y, 1, 7, 3);
        RiddleRoad z = lies("gate 0;gate 0 double 0", 2);
        z.sell(1, 2, 0);
        z.sell(0, 2, 1);
        mays(c, z, 1, 7, 3);
    }

    private static void blind(Check c) {
        RiddleRoad x = Check.told("gate 0 blind;gate 0 blind;walker 0 0 knows 0;walker 0 0 knows 1;walker 0 0 knows 0 1");
        mays(c, x, 0, 6, 6);
        mays(c, x, 1, 6, 6);
        Check.road(x, "gate 0");
        mays(c, x, 1, 0, 0);
        Check.road(x, "walker 0 0 knows 2");
        mays(c, x, 1, 8, 8);
        RiddleRoad y = Check.told("gate 0 blind;walker 0 0;walker 0 0 knows 0");
        mays(c, y, 0, 2, 2);
    }

    private static void falseGate(Check c) {
        RiddleRoad x = lies("gate 0 false;gate 0", 2);
        mays(c, x, 0, 3, 3);
        x.sell(1, 2, 0);
        c.due("a lie", x.walker(2, 4), 0);
        mays(c, x, 0, 7, 7);
        c.due("one passes", x.pass(2), 1);
        c.due("the lie stays", x.walker(2, 3), 1);
        c.due("the true one passes, too", x.pass(0), 1);
        RiddleRoad y = lies("gate 0;gate 0 double 0;gate 0 false", 3);
        y.sell(1, 2, 0);
        y.sell(1, 2, 1);
        mays(c, y, 1, 7, 3);
    }

    private static void tollToTheCoin(Check c) {
        RiddleRoad x = Check.told("gate 5;gate 0;walker 4 0 knows 0;walker 5 0 knows 0 1;walker 6 0 knows 0");
        c.refused("one coin too few", REFUSED, () -> x.pass(0));
        c.due("just so many", x.pass(1), 1);
        c.due("none is left", x.walker(1, 1), 0);
        c.due("in the chest", x.count(7), 5);
        c.due("one more", x.pass(2), 1);
        c.due("one is left", x.walker(2, 1), 1);
        c.due("both in the chest", x.count(7), 10);
        c.due("no toll without a coin", x.pass(1), 2);
        c.due("nothing came", x.count(7), 10);
    }

    private static void nextOne(Check c) {
        RiddleRoad x = Check.told(EdgeRoadTest.gates(12) + ";walker 0 0 knows 0 1 2 3 4 5 6 7 8 9 10 11");
        for (int g = 1; g <= 12; g++) {
            c.due("pass to " + g, x.pass(0), g);
            c.due("at " + g, x.walker(0, 0), g);
        }
    }

    private static void caughtAtAnyGate(Check c) {
        RiddleRoad x = lies("gate 2;gate 3;gate 1", 3);
        x.sell(1, 2, 0);
        c.due("at gate 0 itself", x.pass(2), 0);
        c.due("the toll is paid", x.count(7), 2);
        x.sell(0, 2, 0);
        x.sell(0, 2, 1);
        x.sell(1, 2, 2);
        x.pass(2);
        x.pass(2);
        c.due("there one has two coins", x.walker(2, 1), 2);
        c.due("at the last one", x.pass(2), 0);
        c.due("at gate 0", x.walker(2, 0), 0);
        c.due("its toll is paid, too", x.count(7), 8);
        c.due("nobody else is moved", x.walker(0, 0) + x.walker(1, 0), 0);
    }

    private static void onlyFalseOnes(Check c) {
        RiddleRoad x = lies("gate 0;gate 0 double 0;gate 0", 3);
        x.sell(0, 2, 0);
        x.sell(1, 2, 1);
        x.sell(1, 2, 2);
        x.pass(2);
        x.pass(2);
        c.due("the true one stays, and a lie not asked for", x.walker(2, 3), 5);
        c.due("the true one is true", x.walker(2, 4), 1);
        c.due("since no day", x.since(2, 1), -1);
        c.due("the seller's stay", x.walker(1, 4), 7);
        RiddleRoad y = lies("gate 0 false;gate 0 double 0;gate 0", 3);
        y.sell(1, 2, 0);
        y.sell(0, 2, 1);
        y.pass(2);
        y.pass(2);
        c.due("the other one alone", y.walker(2, 3), 2);
        RiddleRoad z = lies("gate 0 false;gate 0 double 0;gate 0", 3);
        z.sell(1, 2, 0);
        z.sell(1, 2, 1);
        z.sell(1, 2, 2);
        z.pass(2);
        z.pass(2);
        c.due("both of them", z.walker(2, 3), 4);
        RiddleRoad v = lies("gate 0 blind;gate 0;gate 0", 3);
        v.sell(1, 2, 0);
        v.sell(1, 2, 1);
        v.pass(2);
        c.due("the one behind a blind one", v.walker(2, 3), 1);
        RiddleRoad u = lies("gate 0 blind", 1);
        u.sell(1, 2, 0);
        u.pass(2);
        c.due("its own of the last blind one", u.walker(2, 3), 0);
    }

    private static void refusedPasses(Check c) {
        RiddleRoad x = Check.told("gate 1;gate 0 closed 0;walker 9 0 knows 0 1;walker 9 0 knows 1;walker 0 0 knows 0;walker 9 0 knows 0 1");
        c.refused("without the answer", REFUSED, () -> x.pass(1));
        c.refused("without the coins", REFUSED, () -> x.pass(2));
        x.pass(0);
        c.refused("closed to one", REFUSED, () -> x.pass(0));
        x.pass(3);
        x.pass(3);
        c.refused("behind the last", REFUSED, () -> x.pass(3));
        c.due("three passes", x.count(10), 3);
        RiddleRoad y = Check.told("walker 9 0");
        c.refused("without a gate", REFUSED, () -> y.pass(0));
    }

    private static void whoHears(Check c) {
        RiddleRoad x = Check.told("gate 0;gate 0 singing;gate 0 singing;walker 0 0 knows 0 1 2;walker 0 0 knows 0;walker 0 0 knows 0 1;"
                + "walker 0 0 knows 0;walker 0 0");
        x.pass(0);
        x.pass(1);
        x.pass(2);
        c.due("nobody hears a plain one", x.walker(4, 3), 0);
        x.pass(0);
        c.due("one who is at it", x.walker(1, 3), 3);
        c.due("one who had it", x.walker(2, 3), 3);
        c.due("not one who is ahead of it", x.walker(3, 3), 1);
        c.due("nor another", x.walker(4, 3), 0);
        x.pass(1);
        c.due("one who is beyond it has it already", x.walker(0, 3), 7);
        x.pass(0);
        c.due("one at the next one hears that", x.walker(1, 3), 7);
        c.due("one at the one ahead does not", x.walker(2, 3), 3);
        RiddleRoad y = Check.told("gate 0 singing;walker 0 0 knows 0");
        c.due("nobody is there to hear", y.pass(0), 1);
        RiddleRoad z = lies("gate 0 singing;gate 0", 2);
        Check.road(z, "walker 0 0");
        z.sell(1, 2, 0);
        z.pass(2);
        c.due("it did not open to one who was caught", z.walker(3, 3), 0);
    }

    private static void whatIsHeard(Check c) {
        RiddleRoad x = lies("gate 0 singing;gate 0", 2);
        Check.road(x, "walker 0 0");
        x.days(5);
        x.sell(1, 2, 0);
        x.days(1);
        x.pass(0);
        c.due("heard is true", x.walker(3, 4), 1);
        c.due("since this day", x.since(3, 0), 6);
        c.due("a lie that was had stays one", x.walker(2, 4), 0);
        c.due("since then", x.since(2, 0), 5);
    }

    private static int draw(int seed) {
        long next = 1103515245L * seed + 12345L;
        return (int) ((next & 0x7fffffffL) / 65536);
    }

    private static void drawBelowChance(Check c) {
        for (int seed = 0; seed < 60; seed++) {
            int rest = draw(seed) % 100;
            RiddleRoad x = Check.told("gate 0;walker 9 " + rest + ";walker 9 " + Math.min(99, rest + 1));
            x.seed(seed);
            c.due("the chance is the draw " + rest, x.guess(0), false);
            x.seed(seed);
            c.due("the chance is one more than " + rest, x.guess(1), rest < 99);
        }
        RiddleRoad y = Check.told("gate 0;walker 99 0");
        boolean right = false;
        for (int i = 0; i < 99; i++) {
            right |= y.guess(0);
        }
        c.due("never without a chance", right, false);
    }

    private static void guessInPlace(Check c) {
        RiddleRoad x = Check.told("gate 0 blind;gate 0;walker 9 99 knows 0;walker 9 99;liar 0;price 0 0 0");
        x.days(1);
        x.sell(0, 1, 0);
        c.due("a lie", x.walker(1, 4), 0);
        x.days(2);
        x.seed(1);
        c.due("right", x.guess(1), true);
        c.due("true in its place", x.walker(1, 4), 1);
        c.due("since this day", x.since(1, 0), 3);
        x.seed(1);
        c.due("right again", x.guess(0), true);
        c.due("a new day of a true one", x.since(0, 0), 3);
        c.due("its own, not the one behind", x.walker(0, 3), 1);
        c.due("no coin goes for a right one", x.count(7), 0);
    }

    private static void lastCoin(Check c) {
        RiddleRoad x = Check.told("gate 0;walker 2 0 knows 0");
        int[] coins = {1, 0, 0, 0};
        int[] chest = {1, 2, 2, 2};
        for (int i = 0; i < 4; i++) {
            c.due("wrong", x.guess(0), false);
            c.due("coins", x.walker(0, 1), coins[i]);
            c.due("chest", x.count(7), chest[i]);
        }
        c.due("what was had stays", x.walker(0, 3), 1);
    }

    private static void seedGoesRound(Check c) {
        int[] seeds = {0, 1, 2, -1, Integer.MAX_VALUE, Integer.MIN_VALUE, 0x40000000, 1103515245, -1103515245, 65536};
        RiddleRoad x = Check.told("gate 0;walker 9 0");
        for (int seed : seeds) {
            x.seed(seed);
            x.guess(0);
            long next = 1103515245L * seed + 12345L;
            c.due("the seed behind " + seed, x.seed(0), (int) next);
        }
        x.seed(1);
        int due = 1;
        for (int i = 0; i < 100; i++) {
            x.guess(0);
            due = due * 1103515245 + 12345;
        }
        c.due("after a hundred draws", x.seed(0), due);
    }

    /** Seeds whose draws are right by just these bits: the first, the last, and those beside them. */
    private static void drawBits(Check c) {
        for (int seed = -40; seed < 40; seed++) {
            int bits = (1103515245 * seed + 12345) >>> 16 & 0x7fff;
            for (int chance = bits % 100; chance <= Math.min(99, bits % 100 + 1); chance++) {
                RiddleRoad x = Check.told("gate 0;walker 9 " + chance);
                x.seed(seed);
                c.due("seed " + seed + " chance " + chance, x.guess(0), bits % 100 < chance);
            }
        }
    }

    private static void seedAtFirst(Check c) {
        RiddleRoad x = Check.told("gate 0;walker 9 39;walker 9 38");
        c.due("the first draw modulo 100 is 38", x.guess(0), true);
        RiddleRoad y = Check.told("gate 0;walker 9 39;walker 9 38");
        c.due("it is not below 38", y.guess(1), false);
        c.due("one is told", new RiddleRoad().seed(9), 1);
    }

    private static void whoSells(Check c) {
        RiddleRoad x = Check.told("gate 0;gate 0;walker 9 0 knows 0 1;walker 9 0;walker 9 0 knows 0;price 0 0 4;price 1 1 4;price 2 1 0");
        c.due("a price and the answer", x.sell(0, 1, 0), 4);
        c.refused("no price", REFUSED, () -> x.sell(0, 1, 1));
        c.refused("no answer", REFUSED, () -> x.sell(1, 2, 1));
        c.refused("neither", REFUSED, () -> x.sell(2, 1, 1));
        c.refused("the buyer has it", REFUSED, () -> x.sell(0, 2, 0));
        c.refused("the buyer has it by now", REFUSED, () -> x.sell(0, 1, 0));
    }

    private static void fullPurse(Check c) {
        RiddleRoad x = Check.told("gate 0;gate 0;walker 9995 0 knows 0 1;walker 50 0;price 0 0 5;price 0 1 4");
        c.refused("one too many", REFUSED, () -> x.sell(0, 1, 0));
        c.due("9999", x.sell(0, 1, 1), 4);
        c.due("coins", x.walker(0, 1), 9999);
        c.refused("four more", REFUSED, () -> x.sell(0, 1, 0));
        Check.road(x, "price 0 0 0");
        c.due("none more", x.sell(0, 1, 0), 0);
        c.due("coins still", x.walker(0, 1), 9999);
    }

    private static void refusedSales(Check c) {
        RiddleRoad x = Check.told("gate 0;gate 0;walker 9 0 knows 0 1;walker 5 0;walker 0 0;price 0 0 6;price 0 1 0");
        c.refused("one coin too few", REFUSED, () -> x.sell(0, 1, 0));
        c.refused("no coin", REFUSED, () -> x.sell(0, 2, 0));
        c.due("none is needed", x.sell(0, 2, 1), 0);
        Check.road(x, "price 0 0 5");
        c.due("just so many", x.sell(0, 1, 0), 5);
        c.due("none is left", x.walker(1, 1), 0);
        c.due("the seller has them", x.walker(0, 1), 14);
    }

    private static void truthOfSales(Check c) {
        RiddleRoad x = Check.told("gate 0;walker 0 0 knows 0;walker 0 0;walker 0 0;walker 0 0;walker 0 0;liar 1;"
                + "price 0 0 0;price 1 0 0;price 2 0 0");
        x.days(2);
        x.sell(0, 1, 0);
        c.due("true", x.walker(1, 4), 1);
        c.due("since this day", x.since(1, 0), 2);
        x.days(1);
        x.sell(1, 2, 0);
        c.due("false of a liar who has it true", x.walker(2, 4), 0);
        c.due("had", x.walker(2, 3), 1);
        c.due("since the next day", x.since(2, 0), 3);
        x.sell(2, 3, 0);
        c.due("false of one who has it false", x.walker(3, 4), 0);
        x.sell(0, 4, 0);
        c.due("true of one who has it true", x.walker(4, 4), 1);
        c.due("the liar's own stays", x.walker(1, 4), 1);
    }

    private static void innOfSets(Check c) {
        RiddleRoad x = Check.told("gate 0;gate 0;gate 0;walker 0 0 knows 0;walker 0 0 knows 1;walker 0 0 knows 2;walker 0 0");
        c.due("nobody", x.inn(0), 0);
        c.due("one alone", x.inn(8), 0);
        c.due("two who have one each", x.inn(3), 2);
        c.due("the first", x.walker(0, 3), 3);
        c.due("the second", x.walker(1, 3), 3);
        c.due("the third stays away", x.walker(2, 3), 4);
        c.due("all", x.inn(15), 1 + 1 + 2 + 3);
        for (int w = 0; w < 4; w++) {
            c.due("all of " + w, x.walker(w, 3), 7);
        }
        c.due("all once more", x.inn(15), 0);
    }

    private static void innStays(Check c) {
        RiddleRoad x = lies("gate 0", 1);
        x.days(1);
        x.sell(1, 2, 0);
        x.days(1);
        c.due("nothing comes", x.inn(7), 0);
        c.due("a lie stays one", x.walker(2, 4), 0);
        c.due("its day", x.since(2, 0), 1);
        c.due("a true one stays true", x.walker(0, 4), 1);
        c.due("its day, too", x.since(0, 0), 0);
    }

    private static void innTruth(Check c) {
        RiddleRoad x = lies("gate 0", 1);
        Check.road(x, "walker 0 0;walker 0 0");
        x.days(3);
        x.sell(1, 2, 0);
        c.due("of one who has it false", x.inn(4 + 8), 1);
        c.due("it is had", x.walker(3, 3), 1);
        c.due("and false", x.walker(3, 4), 0);
        c.due("since this day", x.since(3, 0), 3);
        c.due("of one who has it false and one true", x.inn(1 + 4 + 16), 1);
        c.due("it is true", x.walker(4, 4), 1);
        c.due("true by a liar who has it true", innWithLiar(), 1);
    }

    /** A liar lies when selling, not at an inn. */
    private static int innWithLiar() {
        RiddleRoad x = lies("gate 0", 1);
        x.inn(2 + 4);
        return x.walker(2, 4);
    }

    private static void walkBack(Check c) {
        RiddleRoad x = Check.told("gate 0;gate 0;walker 0 0 knows 0 1;walker 0 0 knows 0");
        c.due("0 at least", x.walkBack(0), 0);
        c.due("there one is", x.walker(0, 0), 0);
        x.pass(0);
        x.pass(0);
        c.due("from behind the last", x.walkBack(0), 1);
        c.due("to the first", x.walkBack(0), 0);
        c.due("and no further", x.walkBack(0), 0);
        c.due("nothing is paid", x.count(7), 0);
    }

    private static void dayMore(Check c) {
        RiddleRoad x = Check.told("gate 0;gate 0;walker 0 0 knows 0 1;wear 6;change 0");
        c.due("one more", x.days(1), 1);
        c.due("six", x.days(5), 6);
        c.due("both are had", x.walker(0, 3), 3);
        c.due("seven", x.days(1), 7);
        c.due("one is changed, one is worn", x.walker(0, 3), 0);
        RiddleRoad y = Check.told("gate 0;gate 0;walker 0 0 knows 0 1;wear 7;change 0");
        y.days(7);
        c.due("by the new day 7 one is changed, none is worn", y.walker(0, 3), 2);
        y.days(1);
        c.due("by the new day 8 that is worn", y.walker(0, 3), 0);
    }

    private static void coinsStay(Check c) {
        RiddleRoad x = lies("gate 3;gate 2 singing;gate 1 double 0", 3);
        Check.road(x, "price 0 0 2;price 1 1 3;walker 50 40;walker 9999 60 knows 1;price 4 1 1");
        int due = 27 + 50 + 9999;
        for (int i = 0; i < 30; i++) {
            x.live(1 + i % 4);
            x.walkBack(i % 5);
            x.inn(i);
            if (i % 4 == 0) {
                x.undo();
            }
            c.due("coins of all and the chest", x.count(7) + x.count(8), due);
        }
        Check.road(x, "walker 7 0");
        c.due("what was told is more now", x.count(7) + x.count(8), due + 7);
        c.due("some went to the chest", x.count(7) > 0, true);
    }
}
