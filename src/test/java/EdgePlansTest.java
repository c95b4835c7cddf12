/** The edges that Terms 3 names: plans, chains, lies, Mondays, days by draws, what is undone, and the image. */
public final class EdgePlansTest {
    private static final Class<IllegalArgumentException> WRONG = IllegalArgumentException.class;

    public static void main(String[] args) {
        Check c = new Check();
        sentences(c);
        c.close();
    }

    static void sentences(Check c) {
        c.sentence("CHEAPEST for a WALKER to a GATE T (AT T; not ahead of where one is)", EdgePlansTest::toWhereOneIs);
        c.sentence("sets of ANSWERS that are bought (each that one has not, of the WALKER who has it and sells it for the least, of several the least)",
                EdgePlansTest::leastSeller);
        c.sentence("so that one MAY PASS all GATES up to there by what one has:", EdgePlansTest::byWhatOneHas);
        c.sentence("the least of PRICES and TOLLS together; of several the fewest ANSWERS, then the least as bits; none.",
                EdgePlansTest::leastTogether);
        c.sentence("(Whether COINS are enough is not asked.)", EdgePlansTest::coinsNotAsked);
        c.sentence("CONVOY of a set of WALKERS (one at least) to a GATE T:", EdgePlansTest::convoyOfOne);
        c.sentence("they have together all that one of them has, and buy ANSWERS that none of them has",
                EdgePlansTest::convoyTogether);
        c.sentence("(each of the WALKER who is not of them, has it and sells it for the least) once for all:",
                EdgePlansTest::convoyBuysOnce);
        c.sentence("CHEAPEST likewise so that each of them MAY PASS all GATES from where that one is AT up to T", EdgePlansTest::convoyLikewise);
        c.sentence("up to T (those who are beyond it have nothing to pass): PRICES and TOLLS of all together; none.",
                EdgePlansTest::convoyBeyond);
        c.sentence("TRIES: the fewest GUESSES (0 to 99) of a WALKER at a GATE, CHANCE being as it is now,", EdgePlansTest::triesTo99);
        c.sentence("by which the doubt (1000000000 at first, by each one more times (100 less CHANCE) by 100, rounded down)",
                EdgePlansTest::triesRounded);
        c.sentence("is so many millionths at most; none.", EdgePlansTest::triesAtMost);
        c.sentence("BRING: the fewest WALKERS who, at an INN, would MAY PASS all GATES of a set", EdgePlansTest::bringFewest);
        c.sentence("(by what all together have; closed ones as plain): of several the least as bits; none.",
                EdgePlansTest::bringLeast);
        c.sentence("APART: the fewest WALKERS to be kept away so that all others together do not MAY PASS one GATE",
                EdgePlansTest::apartFewest);
        c.sentence("(closed as plain): of several the least as bits.", EdgePlansTest::apartLeast);
        c.sentence("CHAINS (at most 6, numbered from 0 on):", EdgePlansTest::sixChains);
        c.sentence("rows of letters (a to z, one for each GATE: its ANSWER)", EdgePlansTest::lettersOfChains);
        c.sentence("one of which is true. QUESTIONS: the fewest with which one can always part them, each time asking the letter at one GATE",
                EdgePlansTest::fewestQuestions);
        c.sentence("(the next one may depend on what was told): how many;", EdgePlansTest::nextQuestion);
        c.sentence("FIRST: the GATE to be asked first, of several the least; none, if two are alike in all.",
                EdgePlansTest::firstOrNone);
        c.sentence("LIE: keepers said of each GATE whether the answer was true (T), false (F), or they do not know (?):",
                EdgePlansTest::sayings);
        c.sentence("at just one GATE it was a lie (false), at all others true; E keepers at most said what is not so:",
                EdgePlansTest::justOneLie);
        c.sentence("all GATES at which it can have been, as bits.", EdgePlansTest::allWhereItCanBe);
        c.sentence("MONDAY: for N GATES (0 to 12):", EdgePlansTest::mondayOfAll);
        c.sentence("of all sets of N GATES that by which, if all ANSWERS of these were forgotten,", EdgePlansTest::mondayAsItComes);
        c.sentence("the fewest ANSWERS would be left that a WALKER has and has a PRICE for: of several the least as bits.",
                EdgePlansTest::mondayLeast);
        c.sentence("DRAWN DAYS: each DAY: each WALKER who is not behind the last GATE, by numbers: a PASS, if that can be;", EdgePlansTest::drawnPass);
        c.sentence("else a GUESS, if CHANCE is above 0;", EdgePlansTest::drawnGuess);
        c.sentence("else the ANSWER of the GATE where one is, is bought of the cheapest seller (as above), if one has it not and it can be.", EdgePlansTest::drawnSale);
        c.sentence("Then a DAY more.", EdgePlansTest::drawnDay);
        c.sentence("UNDONE: the latest PASS, GUESS, SALE, INN, not undone yet", EdgePlansTest::latestFirst);
        c.sentence("(12 are remembered, also an INN by which nothing came)", EdgePlansTest::twelve);
        c.sentence("all is as ahead of it (but for the TAPE, fault(), THE IMAGE and CHAINS).", EdgePlansTest::allButFour);
        c.sentence("A text, a DAY more or DRAWN ones, going back to THE IMAGE: none are remembered.", EdgePlansTest::forgotten);
        c.sentence("THE IMAGE (one) of all may be kept, and gone back to", EdgePlansTest::oneImage);
        c.sentence("(but for the TAPE, fault() and THE IMAGE itself).", EdgePlansTest::imageButThree);
    }

    private static void plan(Check c, RiddleRoad x, int walker, int to, int coins, int set) {
        c.due("cheapest " + walker + " " + to, x.cheapest(walker, to, false), coins);
        c.due("set of " + walker + " " + to, x.cheapest(walker, to, true), set);
    }

    private static void convoy(Check c, RiddleRoad x, int walkers, int to, int coins, int set) {
        c.due("convoy " + walkers + " " + to, x.convoy(walkers, to, false), coins);
        c.due("set of convoy " + walkers + " " + to, x.convoy(walkers, to, true), set);
    }

    private static void toWhereOneIs(Check c) {
        RiddleRoad x = Check.told("gate 5;gate 6;walker 99 0 knows 0 1;walker 0 0");
        plan(c, x, 1, 0, 0, 0);
        plan(c, x, 0, 2, 11, 0);
        x.pass(0);
        plan(c, x, 0, 1, 0, 0);
        plan(c, x, 0, 2, 6, 0);
        c.refused("ahead of where one is", WRONG, () -> x.cheapest(0, 0, false));
        x.pass(0);
        plan(c, x, 0, 2, 0, 0);
        c.refused("ahead of the end", WRONG, () -> x.cheapest(0, 1, true));
        RiddleRoad y = Check.told("walker 0 0");
        plan(c, y, 0, 0, 0, 0);
    }

    private static void leastSeller(Check c) {
        RiddleRoad x = Check.told("gate 0;gate 0;walker 0 0;walker 0 0 knows 0;walker 0 0 knows 0;walker 0 0;walker 0 0 knows 0;"
                + "price 1 0 9;price 2 0 8;price 3 0 1");
        plan(c, x, 0, 1, 8, 1);
        Check.road(x, "price 4 0 8");
        plan(c, x, 0, 1, 8, 1);
        Check.road(x, "price 4 0 0");
        plan(c, x, 0, 1, 0, 1);
        c.due("two sell for the least, the first of them sells", firstSeller(), 7);
    }

    /** On a drawn day the first of two who sell for the same gets the coin. */
    private static int firstSeller() {
        RiddleRoad x = Check.told("gate 99;walker 5 0;walker 5 0 knows 0;walker 5 0 knows 0;price 1 0 2;price 2 0 2");
        x.live(1);
        return x.walker(1, 1);
    }

    private static void byWhatOneHas(Check c) {
        RiddleRoad x = Check.told("gate 0;gate 0 blind;gate 0 double 0;gate 0 closed 0;walker 0 0;walker 0 0 knows 0 1 2 3;walker 0 0;"
                + "liar 1;price 1 0 1;price 1 1 2;price 1 2 4;price 1 3 8");
        plan(c, x, 0, 1, 1, 1);
        plan(c, x, 0, 2, 5, 5);
        plan(c, x, 0, 3, 5, 5);
        plan(c, x, 0, 4, -1, -1);
        plan(c, x, 2, 4, 13, 13);
        plan(c, x, 1, 4, 0, 0);
        x.inn(6);
        plan(c, x, 2, 4, 0, 0);
    }

    private static void leastTogether(Check c) {
        RiddleRoad x = Check.told("gate 10;gate 20;gate 30;walker 0 0;walker 0 0 knows 0 1;price 1 0 0;price 1 1 5");
        plan(c, x, 0, 1, 10, 1);
        plan(c, x, 0, 2, 35, 3);
        plan(c, x, 0, 3, -1, -1);
        plan(c, x, 1, 2, 30, 0);
        plan(c, x, 1, 3, -1, -1);
    }

    private static void coinsNotAsked(Check c) {
        RiddleRoad x = Check.told("gate 99;gate 99;walker 0 0;walker 9999 0 knows 0 1;price 1 0 99;price 1 1 99");
        plan(c, x, 0, 2, 396, 3);
        c.refused("it can not be bought", IllegalStateException.class, () -> x.sell(1, 0, 0));
    }

    private static void convoyOfOne(Check c) {
        RiddleRoad x = Check.told("gate 1;gate 2;walker 0 0;walker 0 0 knows 0 1;price 1 0 4;price 1 1 8");
        convoy(c, x, 1, 2, 15, 3);
        convoy(c, x, 2, 2, 3, 0);
        convoy(c, x, 3, 2, 6, 0);
        c.refused("nobody", WRONG, () -> x.convoy(0, 2, false));
        c.refused("nobody who is there", WRONG, () -> x.convoy(4, 2, false));
        c.refused("nobody who is there, all other bits", WRONG, () -> x.convoy(~3, 2, true));
    }

    private static void convoyTogether(Check c) {
        RiddleRoad x = Check.told("gate 1;gate 1;gate 1;walker 0 0 knows 0;walker 0 0 knows 1;walker 0 0 knows 2 0 1;"
                + "price 2 0 10;price 2 1 20;price 2 2 40;price 0 0 3");
        convoy(c, x, 1, 3, 63, 6);
        convoy(c, x, 2, 3, 46, 5);
        convoy(c, x, 3, 3, 46, 4);
        convoy(c, x, 7, 3, 9, 0);
    }

    private static void convoyBuysOnce(Check c) {
        RiddleRoad x = Check.told("gate 0;walker 0 0;walker 0 0;walker 0 0;walker 0 0 knows 0;walker 0 0 knows 0;walker 0 0;"
                + "price 3 0 9;price 4 0 7;price 5 0 1");
        convoy(c, x, 7, 1, 7, 1);
        convoy(c, x, 39, 1, 7, 1);
        convoy(c, x, 23, 1, 0, 0);
        RiddleRoad y = Check.told("gate 0;walker 0 0;walker 0 0 knows 0");
        convoy(c, y, 1, 1, -1, -1);
    }

    private static void convoyLikewise(Check c) {
        RiddleRoad x = Check.told("gate 1;gate 2;gate 4;gate 8;walker 99 0 knows 0;walker 99 0 knows 1;walker 99 0 knows 0 1 2;"
                + "price 2 0 10;price 2 1 20;price 2 2 40");
        x.pass(0);
        for (int w = 0; w < 3; w++) {
            for (int to = x.walker(w, 0); to <= 4; to++) {
                convoy(c, x, 1 << w, to, x.cheapest(w, to, false), x.cheapest(w, to, true));
            }
        }
        convoy(c, x, 3, 1, 1, 0);
        convoy(c, x, 3, 2, 5, 0);
        convoy(c, x, 3, 3, 53, 4);
        convoy(c, x, 3, 4, -1, -1);
        convoy(c, x, 7, 3, 20, 0);
        Check.road(x, "gate 0 closed 1");
        convoy(c, x, 3, 3, 53, 4);
    }

    private static void convoyBeyond(Check c) {
        RiddleRoad x = Check.told("gate 1;gate 2;gate 4 closed 0;walker 99 0 knows 0 1;walker 99 0;walker 99 0 knows 2;price 2 2 50");
        convoy(c, x, 3, 2, 6, 0);
        convoy(c, x, 3, 0, 0, 0);
        convoy(c, x, 3, 3, -1, -1);
        convoy(c, x, 2, 2, -1, -1);
        x.pass(0);
        x.pass(0);
        convoy(c, x, 3, 1, 1, 0);
        convoy(c, x, 3, 2, 3, 0);
        convoy(c, x, 1, 0, 0, 0);
        convoy(c, x, 1, 2, 0, 0);
        convoy(c, x, 1, 3, -1, -1);
        c.refused("beyond all gates", WRONG, () -> x.convoy(1, 4, false));
        c.refused("ahead of all gates", WRONG, () -> x.convoy(1, -1, false));
    }

    private static void triesAre(Check c, int ear, int millionths, int due) {
        RiddleRoad x = Check.told("gate 0;walker 0 " + ear);
        c.due("tries with " + ear + " to " + millionths, x.tries(0, 0, millionths), due);
    }

    private static void triesTo99(Check c) {
        triesAre(c, 50, 1000000, 0);
        triesAre(c, 50, 999999, 1);
        triesAre(c, 1, 373464, 99);
        triesAre(c, 1, 369730, 99);
        triesAre(c, 1, 369729, -1);
        triesAre(c, 18, 0, 99);
        triesAre(c, 2, 138086, 99);
        triesAre(c, 13, 1, -1);
        RiddleRoad x = Check.told("gate 0;gate 0;walker 0 50");
        Check.law(x, "hard 25 if not monday;never if gate > 0");
        c.due("as it is now", x.tries(0, 0, 250000), 2);
        x.days(1);
        c.due("as it is the next day", x.tries(0, 0, 250000), 5);
        c.due("at the other gate", x.tries(0, 1, 250000), -1);
    }

    private static void triesRounded(Check c) {
        triesAre(c, 8, 606355, 7);
        triesAre(c, 1, 598956, 51);
        triesAre(c, 34, 0, 48);
        triesAre(c, 90, 0, 10);
        triesAre(c, 90, 1, 6);
        triesAre(c, 99, 0, 5);
        triesAre(c, 50, 0, 30);
    }

    private static void triesAtMost(Check c) {
        triesAre(c, 50, 500000, 1);
        triesAre(c, 50, 499999, 2);
        triesAre(c, 99, 10000, 1);
        triesAre(c, 99, 9999, 2);
        triesAre(c, 0, 1000000, 0);
        triesAre(c, 0, 999999, -1);
        triesAre(c, 0, 0, -1);
    }

    private static void bringFewest(Check c) {
        RiddleRoad x = Check.told("gate 0;gate 0;gate 0;gate 0 blind;walker 0 0 knows 0;walker 0 0 knows 1;walker 0 0 knows 2;"
                + "walker 0 0 knows 0 1 2;walker 0 0 knows 3");
        c.due("nobody for no gate", x.bring(0), 0);
        c.due("one for three", x.bring(7), 8);
        c.due("two for all", x.bring(15), 24);
        RiddleRoad y = Check.told("gate 0;gate 0;gate 0;walker 0 0 knows 0;walker 0 0 knows 1;walker 0 0 knows 2");
        c.due("all of them", y.bring(7), 7);
        Check.road(y, "gate 0 double 0");
        c.due("nobody has it", y.bring(8), -1);
        c.due("nobody has one of two", y.bring(9), -1);
        c.due("the others still", y.bring(5), 5);
    }

    private static void bringLeast(Check c) {
        RiddleRoad x = Check.told("gate 0;gate 0 closed 0;gate 0 double 0;walker 0 0 knows 1;walker 0 0 knows 0;walker 0 0 knows 0 1;"
                + "walker 0 0 knows 2;walker 0 0 knows 2 1");
        c.due("closed as plain", x.bring(2), 1);
        c.due("the first of two", x.bring(1), 2);
        c.due("one who has both", x.bring(3), 4);
        c.due("the least pair for a double one", x.bring(4), 10);
        c.due("the least pair for all", x.bring(7), 12);
        c.due("bits of no gate", x.bring(-8), 0);
        c.due("and one of a gate", x.bring(-8 | 2), 1);
    }

    private static void apartFewest(Check c) {
        RiddleRoad x = Check.told("gate 0;gate 0;gate 0 double 0;gate 0;walker 0 0 knows 0 2;walker 0 0 knows 0;walker 0 0 knows 2 1");
        c.due("all who have it", x.apart(0), 3);
        c.due("the only one", x.apart(1), 4);
        c.due("nobody has it", x.apart(3), 0);
        Check.road(x, "walker 0 0 knows 0");
        c.due("the rarer of both", x.apart(2), 5);
        RiddleRoad blind = Check.told("gate 0 blind;gate 0 double 0;walker 0 0 knows 0;walker 0 0 knows 1;walker 0 0 knows 0");
        c.due("the one who has the one behind", blind.apart(0), 2);
        c.due("the only one who has one of two", blind.apart(1), 2);
        RiddleRoad y = Check.told("gate 0;" + "walker 0 0 knows 0;".repeat(7) + "walker 0 0 knows 0");
        c.due("all eight", y.apart(0), 255);
        RiddleRoad z = Check.told("gate 0");
        c.due("nobody is there", z.apart(0), 0);
    }

    private static void apartLeast(Check c) {
        RiddleRoad x = Check.told("gate 0 closed 2;gate 0 double 0;gate 0 blind;walker 0 0 knows 1;walker 0 0 knows 0;walker 0 0 knows 0 1;"
                + "walker 0 0 knows 1;walker 0 0 knows 0");
        c.due("closed as plain", x.apart(0), 2 + 4 + 16);
        c.due("three have the one, three the other: the least", x.apart(1), 1 + 4 + 8);
        c.due("nobody has the last blind one", x.apart(2), 0);
    }

    private static void sixChains(Check c) {
        RiddleRoad x = Check.told("gate 0");
        for (int i = 0; i < 6; i++) {
            c.due("chain " + i, Check.chain(x, "" + (char) ('a' + i)), i);
        }
        c.refused("a 7th", UnsupportedOperationException.class, () -> Check.chain(x, "z"));
        c.due("six", x.count(9), 6);
        c.due("the last", x.letter(5, 0), 'f');
        c.refused("none is 6", IndexOutOfBoundsException.class, () -> x.letter(6, 0));
        x.forget();
        c.due("then from 0 on again", Check.chain(x, "y"), 0);
    }

    private static void lettersOfChains(Check c) {
        RiddleRoad x = Check.told("gate 0;gate 0;gate 0");
        c.due("a to z", Check.chain(x, "amz"), 0);
        c.due("the first", x.letter(0, 0), 'a');
        c.due("the last", x.letter(0, 2), 'z');
        String[] wrong = {"", "ab", "abcd", "ab`", "ab{", "abA", "ab ", "ab1", "ab?", "ab\u00e9", "ab\u0000", "`bc", "{bc"};
        for (String row : wrong) {
            c.refused("chain \"" + row + "\"", WRONG, () -> Check.chain(x, row));
        }
        c.due("none of these", x.count(9), 1);
    }

    private static RiddleRoad chains(int gates, String... rows) {
        RiddleRoad x = Check.told(EdgeRoadTest.gates(gates));
        for (String row : rows) {
            Check.chain(x, row);
        }
        return x;
    }

    private static void asks(Check c, RiddleRoad x, int fewest, int first) {
        c.due("questions", x.questions(false), fewest);
        c.due("first", x.questions(true), first);
    }

    private static void fewestQuestions(Check c) {
        asks(c, chains(2, "ab"), 0, -1);
        asks(c, chains(2, "ab", "ac"), 1, 1);
        asks(c, chains(2, "ab", "bb", "cb", "db", "eb", "fb"), 1, 0);
        asks(c, chains(3, "aab", "aba", "baa"), 2, 0);
        asks(c, chains(5, "baaaa", "abaaa", "aabaa", "aaaba", "aaaab", "aaaaa"), 5, 0);
        asks(c, chains(3, "aax", "aay", "bxa", "bya"), 2, 0);
        asks(c, chains(3, "xaa", "yaa", "abx", "aby"), 2, 0);
        asks(c, chains(4, "paqa", "paqb", "pbra", "pbsa", "pcaa", "pcab"), 2, 1);
    }

    /** The same gates for all that can be told would be three. */
    private static void nextQuestion(Check c) {
        asks(c, chains(3, "aaa", "aba", "baa", "bab"), 2, 0);
        asks(c, chains(3, "aaa", "baa", "aab", "abb"), 2, 2);
        asks(c, chains(4, "aaaa", "abaa", "baaa", "baba", "caaa", "caab"), 2, 0);
        asks(c, chains(4, "aaaa", "aaba", "aaab", "abaa", "abba", "abab"), 3, 1);
    }

    private static void firstOrNone(Check c) {
        asks(c, chains(3, "aaa", "abb"), 1, 1);
        asks(c, chains(3, "aba", "bab"), 1, 0);
        asks(c, chains(3, "aba", "aba"), -1, -1);
        asks(c, chains(3, "aba", "bab", "abc", "aba"), -1, -1);
        asks(c, chains(3), 0, -1);
        RiddleRoad x = new RiddleRoad();
        Check.chain(x, "");
        asks(c, x, 0, -1);
        Check.chain(x, "");
        asks(c, x, -1, -1);
    }

    /** All rows of four sayings: who said false elsewhere, or true there, said what is not so. */
    private static void sayings(Check c) {
        for (int row = 0; row < 81; row++) {
            RiddleRoad x = Check.told("gate 0;gate 0;gate 0;gate 0");
            StringBuilder said = new StringBuilder();
            for (int g = 0, rest = row; g < 4; g++, rest /= 3) {
                said.append("TF?".charAt(rest % 3));
            }
            for (int e = 0; e < 6; e++) {
                int due = 0;
                for (int g = 0; g < 4; g++) {
                    String others = said.substring(0, g) + said.substring(g + 1);
                    long wrong = others.chars().filter(s -> s == 'F').count() + (said.charAt(g) == 'T' ? 1 : 0);
                    due |= wrong <= e ? 1 << g : 0;
                }
                c.due("lie " + said + " " + e, Check.lie(x, said.toString(), e), due);
            }
        }
    }

    private static void justOneLie(Check c) {
        RiddleRoad x = Check.told("gate 0;gate 0;gate 0");
        c.due("none could be", Check.lie(x, "TTT", 0), 0);
        c.due("one wrong keeper", Check.lie(x, "TTT", 1), 7);
        c.due("that one", Check.lie(x, "TFT", 0), 2);
        c.due("that one or, with two wrong, another", Check.lie(x, "TFT", 2), 7);
        c.due("with one wrong still that one", Check.lie(x, "TFT", 1), 2);
        c.due("two say false", Check.lie(x, "FFT", 0), 0);
        c.due("one of both", Check.lie(x, "FFT", 1), 3);
        c.due("nobody knows", Check.lie(x, "???", 0), 7);
        c.due("one who does not know", Check.lie(x, "T?T", 0), 2);
        c.due("all say false", Check.lie(x, "FFF", 1), 0);
        c.due("but two are wrong", Check.lie(x, "FFF", 2), 7);
        RiddleRoad y = Check.told("gate 0");
        c.due("the only one", Check.lie(y, "F", 0), 1);
        c.due("the only one is told true", Check.lie(y, "T", 0), 0);
        RiddleRoad z = Check.told(EdgeRoadTest.gates(12));
        c.due("all twelve are wrong", Check.lie(z, "FFFFFFFFFFFF", 11), 4095);
        c.due("eleven are, at least", Check.lie(z, "FFFFFFFFFFFF", 10), 0);
    }

    private static void allWhereItCanBe(Check c) {
        RiddleRoad x = Check.told(EdgeRoadTest.gates(12));
        c.due("the first", Check.lie(x, "F???????????", 0), 1);
        c.due("the last", Check.lie(x, "???????????F", 0), 2048);
        c.due("all but the last", Check.lie(x, "???????????T", 0), 2047);
        c.due("all but the first and the last", Check.lie(x, "T??????????T", 0), 2046);
        c.due("any", Check.lie(x, "????????????", 0), 4095);
        c.due("any of all that can be said", Check.lie(x, "TFTFTFTFTFTF", 12), 4095);
        c.due("none", Check.lie(x, "TTTTTTTTTTTT", 0), 0);
    }

    private static void mondayOfAll(Check c) {
        RiddleRoad x = Check.told(EdgeRoadTest.gates(12));
        Check.road(x, "walker 0 0 knows 11;price 0 11 0");
        c.due("none", x.monday(0), 0);
        c.due("one", x.monday(1), 2048);
        c.due("eleven", x.monday(11), 2048 + 1023);
        c.due("twelve", x.monday(12), 4095);
        c.refused("thirteen", WRONG, () -> x.monday(13));
        c.refused("below 0", WRONG, () -> x.monday(-1));
    }

    private static RiddleRoad sellers() {
        RiddleRoad x = Check.told("gate 0;gate 0;gate 0;gate 0;gate 0;walker 0 0 knows 0 1 2;walker 0 0 knows 1 3;walker 0 0 knows 0 1 2 3 4;"
                + "price 0 0 1;price 0 2 2;price 1 3 0;price 1 4 9;price 2 1 7");
        Check.road(x, "price 2 2 3;price 2 3 3;price 0 4 1");
        return x;
    }

    /** How many are left that are had and sold, when just these were forgotten on a Monday. */
    private static int leftBy(int set) {
        RiddleRoad x = sellers();
        StringBuilder change = new StringBuilder(set == 0 ? "still" : "change");
        for (int g = 0; g < 5; g++) {
            change.append((set >> g & 1) == 1 ? " " + g : "");
        }
        Check.road(x, change.toString());
        x.days(7);
        int left = 0;
        for (int w = 0; w < 3; w++) {
            for (int g = 0; g < 5; g++) {
                left += x.since(w, g) >= 0 && x.price(w, g) >= 0 ? 1 : 0;
            }
        }
        return left;
    }

    private static void mondayAsItComes(Check c) {
        RiddleRoad x = sellers();
        for (int n = 0; n <= 5; n++) {
            int best = -1;
            for (int set = 0; set < 32; set++) {
                if (Integer.bitCount(set) == n && (best < 0 || leftBy(set) < leftBy(best))) {
                    best = set;
                }
            }
            c.due("monday " + n, x.monday(n), best);
        }
        c.due("nothing was forgotten", x.count(12), 10);
    }

    private static void mondayLeast(Check c) {
        RiddleRoad x = Check.told("gate 0;gate 0;gate 0;gate 0;walker 0 0 knows 1 2 3;walker 0 0 knows 2 3;walker 0 0 knows 0;"
                + "price 0 2 1;price 1 2 0;price 0 3 1;price 1 3 9");
        c.due("the least of two", x.monday(1), 4);
        c.due("both", x.monday(2), 12);
        c.due("the least of those that are not sold", x.monday(3), 13);
        Check.road(x, "price 2 1 4;price 0 1 4");
        c.due("had and sold by one", x.monday(3), 14);
        Check.road(x, "price 2 0 4;walker 0 0 knows 0;price 3 0 5;walker 0 0 knows 0;price 4 0 5");
        c.due("sold by three", x.monday(1), 1);
        c.due("then by two", x.monday(2), 5);
    }

    private static void drawnPass(Check c) {
        RiddleRoad x = Check.told("gate 1;gate 1 singing;walker 9 99 knows 0 1;walker 9 99 knows 0;walker 0 0");
        c.due("two", x.live(1), 2);
        c.due("no draw", x.seed(1), 1);
        c.due("the first sings, the second passes by that", x.live(1), 2);
        c.due("both are behind all", x.count(11), 2);
        c.due("who do no more", x.live(9), 0);
        c.due("nor pay", x.count(7), 4);
        RiddleRoad y = Check.told("gate 0;gate 0;walker 0 0 knows 0 1;walker 0 0 knows 0;liar 0;price 0 1 0");
        c.due("two pass", y.live(1), 2);
        y.sell(0, 1, 1);
        c.due("one passes, one is caught", y.live(1), 1);
        c.due("at 0", y.walker(1, 0), 0);
        RiddleRoad z = Check.told("walker 9 99");
        c.due("all are behind a road without gates", z.live(9), 0);
        c.due("nobody guesses there", z.seed(1), 1);
    }

    private static void drawnGuess(Check c) {
        RiddleRoad x = Check.told("gate 0;walker 9 1;walker 9 0 knows 0;walker 9 0;price 1 0 3");
        x.seed(1);
        x.pass(1);
        x.live(1);
        c.due("one guessed, and was wrong", x.walker(0, 1), 8);
        c.due("one bought instead", x.walker(2, 1), 6);
        c.due("one draw", x.seed(1), 1103515245 + 12345);
        Check.law(x, "never if ear < 2");
        x.live(1);
        c.due("without a chance one buys", x.walker(0, 3), 1);
        c.due("no draw", x.seed(1), 1);
        RiddleRoad y = Check.told("gate 0;walker 9 99");
        c.due("a right guess is no pass", y.live(1), 0);
        c.due("it is had", y.walker(0, 3), 1);
        c.due("then comes the pass", y.live(1), 1);
    }

    private static void drawnSale(Check c) {
        RiddleRoad x = Check.told("gate 0;gate 0 closed 3;walker 9 0;walker 9 0 knows 0;walker 9 0 knows 0;walker 0 0 knows 0;"
                + "price 1 0 5;price 2 0 4;price 0 0 0");
        x.pass(3);
        x.live(1);
        c.due("of the cheapest", x.walker(2, 1), 13);
        c.due("it is had", x.walker(0, 3), 1);
        c.due("one who cannot pass and finds no seller", x.walker(3, 3), 1);
        RiddleRoad y = Check.told("gate 0;walker 3 0;walker 9 0 knows 0;price 1 0 4");
        y.pass(1);
        y.live(3);
        c.due("one coin too few", y.walker(0, 3), 0);
        RiddleRoad z = Check.told("gate 0;walker 9 0;walker 9999 0 knows 0;price 1 0 1");
        z.pass(1);
        z.live(3);
        c.due("the seller has no room", z.walker(0, 3), 0);
        RiddleRoad u = Check.told("gate 0;walker 9 0;walker 9999 0 knows 0;walker 9 0 knows 0;price 1 0 1;price 2 0 2");
        u.live(1);
        c.due("the cheapest seller has no room, and no dearer one is asked", u.walker(0, 3), 0);
        RiddleRoad v = Check.told("gate 50;walker 9 0 knows 0;walker 9 0 knows 0;price 1 0 1;price 0 0 2");
        v.live(3);
        c.due("one has it", v.walker(0, 1), 9);
    }

    private static void drawnDay(Check c) {
        RiddleRoad x = Check.told("gate 0;gate 0;walker 0 0 knows 0 1;wear 6;change 0");
        c.due("one", x.live(1), 1);
        c.due("day", x.count(4), 1);
        x.walkBack(0);
        x.days(5);
        c.due("day 6", x.count(4), 6);
        c.due("ahead of the change one passes", x.live(1), 1);
        c.due("day 7", x.count(4), 7);
        c.due("changed and worn", x.walker(0, 3), 0);
        RiddleRoad y = Check.told("gate 0;walker 0 99");
        c.due("guessed on day 0", y.live(1), 0);
        c.due("since day 0", y.since(0, 0), 0);
    }

    private static final String ROAD = "gate 1;gate 1;gate 1;walker 9 99 knows 0 1;walker 9 0 knows 1;walker 9 0 knows 2;price 1 1 2;price 2 2 3";

    private static void latestFirst(Check c) {
        RiddleRoad x = Check.told("gate 1;gate 1;walker 9 99 knows 0;walker 9 0 knows 1;price 1 1 2");
        c.due("none", x.undo(), false);
        String[] before = new String[4];
        before[0] = Check.all(x);
        x.pass(0);
        before[1] = Check.all(x);
        x.guess(1);
        before[2] = Check.all(x);
        x.sell(1, 0, 1);
        before[3] = Check.all(x);
        c.due("an answer comes", x.inn(3), 1);
        for (int i = 3; i >= 0; i--) {
            c.due("act " + i, x.undo(), true);
            c.due("as ahead of act " + i, Check.all(x), before[i]);
        }
        c.due("no more", x.undo(), false);
        c.due("and nothing happens", x.count(7) + x.walker(0, 0), 0);
    }

    private static void twelve(Check c) {
        for (int acts = 11; acts <= 14; acts++) {
            RiddleRoad x = Check.told(ROAD);
            for (int i = 0; i < acts; i++) {
                x.inn(0);
            }
            int remembered = Math.min(12, acts);
            c.due("remembered of " + acts, x.count(10), remembered);
            for (int i = 0; i < remembered; i++) {
                c.due("undone " + i + " of " + acts, x.undo(), true);
            }
            c.due("no more of " + acts, x.undo(), false);
        }
        RiddleRoad y = Check.told("gate 0;walker 99 0");
        for (int i = 0; i < 30; i++) {
            y.guess(0);
        }
        for (int i = 1; i <= 12; i++) {
            y.undo();
            c.due("coins after " + i, y.walker(0, 1), 69 + i);
        }
        c.due("the 13th is forgotten", y.undo(), false);
        y.guess(0);
        c.due("one more is remembered", y.undo(), true);
        c.due("as ahead of it", y.walker(0, 1), 81);
    }

    private static void allButFour(Check c) {
        RiddleRoad x = Check.told(ROAD);
        x.seed(5);
        String before = Check.all(x);
        x.pass(0);
        x.walkBack(0);
        x.seed(6);
        c.wrongRoad(x, "x", 0);
        Check.chain(x, "abc");
        x.image();
        Check.put(x, "abcd");
        x.undo();
        c.due("a chain stays", x.count(9), 1);
        c.due("the fault stays", x.fault(), 0);
        c.due("the tape stays", Check.taped(x, 4), true);
        x.forget();
        c.due("all else is as ahead", Check.all(x), before);
        c.due("the image stays", x.back(), true);
        c.due("as it was kept", x.seed(0), 6);
    }

    private static void forgotten(Check c) {
        RiddleRoad x = Check.told(ROAD);
        x.image();
        Check.Deed[] deeds = {() -> Check.road(x, "still"), () -> Check.road(x, ""), () -> Check.law(x, "hard 1"), () -> Check.law(x, ""),
            () -> x.days(1), () -> x.live(1), () -> x.back()};
        for (int i = 0; i < deeds.length; i++) {
            x.inn(0);
            x.inn(1);
            c.due("two ahead of deed " + i, x.count(10), 2);
            deeds[i].run();
            c.due("none behind deed " + i, x.count(10), 0);
            c.due("nothing is undone behind deed " + i, x.undo(), false);
        }
        x.inn(0);
        Check.Deed[] others = {() -> x.walkBack(0), () -> x.seed(4), x::image, () -> Check.chain(x, "abc"), x::forget,
            () -> Check.lie(x, "TTT", 0), () -> x.questions(true), () -> x.cheapest(0, 3, true), () -> x.convoy(1, 3, true)};
        for (int i = 0; i < others.length; i++) {
            others[i].run();
            c.due("remembered behind another deed " + i, x.count(10), 1);
        }
    }

    private static void oneImage(Check c) {
        RiddleRoad x = Check.told(ROAD);
        c.due("none yet", x.back(), false);
        x.pass(0);
        x.days(1);
        Check.chain(x, "abc");
        x.image();
        String kept = Check.all(x);
        x.pass(0);
        x.forget();
        Check.chain(x, "xyz");
        Check.road(x, "gate 9;walker 9 9;wear 3;change 1;liar 0");
        Check.law(x, "never");
        x.live(9);
        c.due("back", x.back(), true);
        c.due("all", Check.all(x), kept);
        x.pass(0);
        c.due("back again", x.back(), true);
        c.due("one is at 1", x.walker(0, 0), 1);
        x.pass(0);
        x.image();
        x.walkBack(0);
        x.back();
        c.due("the later one alone is kept", x.walker(0, 0), 2);
        x.undo();
        c.due("nothing undone leaves it", x.walker(0, 0), 2);
    }

    private static void imageButThree(Check c) {
        RiddleRoad x = Check.told(ROAD);
        c.wrongRoad(x, "still x", 6);
        Check.put(x, "ab");
        x.image();
        c.due("keeping it leaves the tape", Check.taped(x, 2), true);
        c.due("and the fault", x.fault(), 6);
        x.end(0);
        c.wrongLaw(x, "hard 1 x", 7);
        Check.put(x, "abcde");
        c.due("back", x.back(), true);
        c.due("the tape stays", Check.taped(x, 5), true);
        c.due("the fault stays", x.fault(), 7);
        c.due("the image stays", x.back(), true);
    }
}
