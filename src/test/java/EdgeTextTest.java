/** The edges that Terms 1 names of the texts themselves, of the law and of the first wrong byte. */
public final class EdgeTextTest {
    private static final String ROAD = "gate 7;gate 3 double 0;gate 0 false;walker 20 80 knows 0 2;walker 5 99;walker 0 0";

    public static void main(String[] args) {
        Check c = new Check();
        sentences(c);
        c.close();
    }

    static void sentences(Check c) {
        c.sentence("LAW (a text, in place of the one before)", EdgeTextTest::lawInPlace);
        c.sentence("LINE { ; LINE }, at most 12", EdgeTextTest::twelveLines);
        c.sentence("hard N [ if C ] | never [ if C ]", EdgeTextTest::withoutConditions);
        c.sentence("C: ALL { or ALL }; ALL: ATOM { and ATOM };", EdgeTextTest::andIsCloser);
        c.sentence("ATOM: not ATOM | ( C ) | monday | SUM < SUM | SUM > SUM.", EdgeTextTest::atoms);
        c.sentence("SUM: PART { + PART };", EdgeTextTest::sums);
        c.sentence("PART: NUMBER | gate | kind | toll | day | coins | known | ear.", EdgeTextTest::parts);
        c.sentence("All numbers are of 1 to 3 digits (N 0 to 999).", EdgeTextTest::lawNumbers);
        c.sentence("CHANCE of a WALKER at a GATE: EAR less the sum of N of all hard LINES that hold, 0 at least;", EdgeTextTest::chanceAtLeast);
        c.sentence("0, if some never LINE holds.", EdgeTextTest::never);
        c.sentence("day: DAY modulo 7;", EdgeTextTest::dayGoesRound);
        c.sentence("monday: that is 0;", EdgeTextTest::mondays);
        c.sentence("known: how many ANSWERS one has.", EdgeTextTest::known);
        c.sentence("Words are as long as a to z go on;", EdgeTextTest::words);
        c.sentence("between all there may be blanks (32), also ahead and behind.", EdgeTextTest::blanks);
        c.sentence("A text that is empty, or blanks alone, has no LINE, and is right.", EdgeTextTest::empty);
        c.sentence("( and not within one another at most 6 deep.", EdgeTextTest::sixDeep);
        c.sentence("The first wrong byte: the begin of the first thing that cannot stand there", EdgeTextTest::firstOfSeveral);
        c.sentence("a number of more digits,", EdgeTextTest::moreDigits);
        c.sentence("or out of its bounds,", EdgeTextTest::outOfBounds);
        c.sentence("or that tells none that is there;", EdgeTextTest::noneThere);
        c.sentence("a word that is none;", EdgeTextTest::noWord);
        c.sentence("the ( or not that is a 7th one deep;", EdgeTextTest::seventh);
        c.sentence("of a LINE too many,", EdgeTextTest::lineTooMany);
        c.sentence("of a GATE, WALKER too many, the first word)", EdgeTextTest::gateOrWalkerTooMany);
        c.sentence("or the text's length, if more must come.", EdgeTextTest::moreMustCome);
        c.sentence("Of a wrong text nothing stays.", EdgeTextTest::nothingStays);
    }

    private static void chance(Check c, RiddleRoad x, String law, int due) {
        Check.law(x, law);
        c.due("chance by \"" + law + "\"", x.chance(0, 1), due);
    }

    /** Of walker 0 at gate 1: one less than 80 if it holds. */
    private static void holds(Check c, RiddleRoad x, String condition, boolean due) {
        chance(c, x, "hard 1 if " + condition, due ? 79 : 80);
    }

    private static void lawInPlace(Check c) {
        RiddleRoad x = Check.told(ROAD);
        chance(c, x, "hard 5;hard 6", 69);
        chance(c, x, "hard 1", 79);
        c.due("lines", x.count(3), 1);
        chance(c, x, "", 80);
        c.due("none", x.count(3), 0);
    }

    private static void twelveLines(Check c) {
        RiddleRoad x = Check.told(ROAD);
        c.due("twelve", Check.law(x, "hard 1;".repeat(11) + "hard 1"), 12);
        c.due("all count", x.chance(0, 1), 68);
        c.due("lines", x.count(3), 12);
        c.wrongLaw(x, "hard 2;".repeat(12) + "hard 2", 84);
        c.due("the one before stays", x.chance(0, 1), 68);
    }

    private static void withoutConditions(Check c) {
        RiddleRoad x = Check.told(ROAD);
        chance(c, x, "hard 7", 73);
        chance(c, x, "hard 7;hard 8 if 1 < 0", 73);
        chance(c, x, "never", 0);
        c.wrongLaw(x, "hard 7 if", 9);
        c.wrongLaw(x, "hard 7 if;never", 9);
        c.wrongLaw(x, "never if", 8);
        c.wrongLaw(x, "never 7", 6);
        c.wrongLaw(x, "hard", 4);
        c.wrongLaw(x, "hard if monday", 5);
    }

    private static void andIsCloser(Check c) {
        RiddleRoad x = Check.told(ROAD);
        holds(c, x, "monday or monday and 1<0", true);
        holds(c, x, "1<0 and monday or monday", true);
        holds(c, x, "(monday or monday) and 1<0", false);
        holds(c, x, "1<0 and (monday or monday)", false);
        holds(c, x, "1<0 or monday and monday", true);
        holds(c, x, "not monday or monday", true);
        holds(c, x, "not (monday or monday)", false);
        holds(c, x, "not monday and 1<0", false);
        holds(c, x, "not (monday and 1<0)", true);
        String[] wrong = {"1 > 2", "2 < 1", "1 > 1", "1 < 1", "not monday"};
        for (String no : wrong) {
            holds(c, x, no, false);
            holds(c, x, "not " + no, true);
            holds(c, x, no + " and monday", false);
            holds(c, x, "monday and " + no, false);
            holds(c, x, no + " or " + no, false);
            holds(c, x, no + " or monday", true);
        }
        c.wrongLaw(x, "never if monday or", 18);
        c.wrongLaw(x, "never if monday and", 19);
        c.wrongLaw(x, "never if or monday", 9);
    }

    private static void atoms(Check c) {
        RiddleRoad x = Check.told(ROAD);
        holds(c, x, "monday", true);
        holds(c, x, "not monday", false);
        holds(c, x, "not not monday", true);
        holds(c, x, "(monday)", true);
        holds(c, x, "(not monday)", false);
        holds(c, x, "not (monday)", false);
        holds(c, x, "1 < 2", true);
        holds(c, x, "2 < 1", false);
        holds(c, x, "2 > 1", true);
        holds(c, x, "1 > 2", false);
        holds(c, x, "not 1 > 2", true);
        holds(c, x, "not not 2 < 1", false);
        c.wrongLaw(x, "hard 1 if not", 13);
        c.wrongLaw(x, "hard 1 if ()", 11);
        c.wrongLaw(x, "hard 1 if (monday", 17);
        c.wrongLaw(x, "hard 1 if monday)", 16);
        c.wrongLaw(x, "hard 1 if monday monday", 17);
        c.wrongLaw(x, "hard 1 if monday < 1", 17);
        c.wrongLaw(x, "hard 1 if monday + 1 < 1", 17);
        c.wrongLaw(x, "hard 1 if 1", 11);
        c.wrongLaw(x, "hard 1 if 1 and monday", 12);
        c.wrongLaw(x, "hard 1 if 1 <", 13);
        c.wrongLaw(x, "hard 1 if 1 < monday", 14);
        c.wrongLaw(x, "hard 1 if 1 < 2 < 3", 16);
        c.wrongLaw(x, "hard 1 if (1) < 2", 12);
        c.wrongLaw(x, "hard 1 if (1 < 2", 16);
        c.wrongLaw(x, "hard 1 if 1 = 1", 12);
        c.wrongLaw(x, "hard 1 if 1 <= 1", 13);
        c.wrongLaw(x, "hard 1 if hard", 10);
    }

    private static void sums(Check c) {
        RiddleRoad x = Check.told(ROAD);
        holds(c, x, "3 < 1 + 1 + 1 + 1", true);
        holds(c, x, "4 < 1 + 1 + 1 + 1", false);
        holds(c, x, "4 > 1 + 1 + 1 + 1", false);
        holds(c, x, "5 > 1 + 1 + 1 + 1", true);
        holds(c, x, "1 + 1 < 2", false);
        holds(c, x, "1 + 1 > 2", false);
        holds(c, x, "999 + 999 > 999 + 998", true);
        holds(c, x, "999 + 999 < 999 + 998", false);
        c.wrongLaw(x, "never if 1 + ", 13);
        c.wrongLaw(x, "never if 1 +  < 2", 14);
        c.wrongLaw(x, "never if < 2", 9);
    }

    /** A part has just this value, of walker 0 at gate 1. */
    private static void worth(Check c, RiddleRoad x, String part, int value) {
        holds(c, x, part + " < " + (value + 1) + " and " + part + " + 1 > " + value, true);
        holds(c, x, part + " < " + value + " or " + part + " > " + value, false);
    }

    private static void parts(Check c) {
        RiddleRoad x = Check.told(ROAD);
        x.days(10);
        worth(c, x, "0", 0);
        worth(c, x, "998", 998);
        worth(c, x, "gate", 1);
        worth(c, x, "kind", 1);
        worth(c, x, "toll", 3);
        worth(c, x, "day", 3);
        worth(c, x, "coins", 20);
        worth(c, x, "known", 2);
        worth(c, x, "ear", 80);
        worth(c, x, "gate + kind + toll + day + coins + known + ear + 7", 117);
        String[] none = {"walker", "price", "wear", "change", "chest", "answer", "double", "knows", "not", "+", "<", ")", "#"};
        for (String word : none) {
            c.wrongLaw(x, "hard 1 if 1 + " + word + " < 2", 14);
        }
    }

    private static void lawNumbers(Check c) {
        RiddleRoad x = Check.told(ROAD);
        chance(c, x, "hard 0", 80);
        chance(c, x, "hard 000", 80);
        chance(c, x, "hard 007", 73);
        chance(c, x, "hard 999", 0);
        c.wrongLaw(x, "hard 1000", 5);
        c.wrongLaw(x, "hard 0000", 5);
        holds(c, x, "998 < 999", true);
        holds(c, x, "000 < 001", true);
        c.wrongLaw(x, "hard 1 if 1000 < 1", 10);
        c.wrongLaw(x, "hard 1 if 1 < 0001", 14);
    }

    private static void chanceAtLeast(Check c) {
        RiddleRoad x = Check.told(ROAD);
        chance(c, x, "hard 79", 1);
        chance(c, x, "hard 80", 0);
        chance(c, x, "hard 81", 0);
        chance(c, x, "hard 999;hard 999;hard 999", 0);
        chance(c, x, "hard 40;hard 39", 1);
        chance(c, x, "hard 40;hard 39 if 1 < 0", 40);
        c.due("an ear of 0", x.chance(2, 1), 0);
    }

    private static void never(Check c) {
        RiddleRoad x = Check.told(ROAD);
        chance(c, x, "never if 0 < 1", 0);
        chance(c, x, "never if 1 < 0", 80);
        chance(c, x, "never if 0 < 1;never if 1 < 0", 0);
        chance(c, x, "never if 1 < 0;never if 0 < 1", 0);
        chance(c, x, "hard 0;never;hard 0", 0);
        chance(c, x, "hard 1;never if 1 < 0", 79);
    }

    private static void dayGoesRound(Check c) {
        RiddleRoad x = Check.told(ROAD);
        Check.law(x, "hard 10 if day > 0;hard 10 if day > 1;hard 10 if day > 2;hard 10 if day > 3;hard 10 if day > 4;"
                + "hard 10 if day > 5;never if day > 6");
        for (int day = 0; day <= 15; day++) {
            c.due("chance on day " + day, x.chance(0, 1), 80 - 10 * (day % 7));
            x.days(1);
        }
    }

    private static void mondays(Check c) {
        RiddleRoad x = Check.told(ROAD);
        Check.law(x, "hard 1 if monday;hard 2 if not monday");
        for (int day = 0; day <= 15; day++) {
            c.due("chance on day " + day, x.chance(0, 1), day % 7 == 0 ? 79 : 78);
            x.days(1);
        }
    }

    private static void known(Check c) {
        RiddleRoad x = Check.told(ROAD);
        Check.law(x, "hard 10 if known > 0;hard 10 if known > 1;hard 10 if known > 2;hard 1 if known < 1");
        c.due("two", x.chance(0, 0), 60);
        c.due("none", x.chance(1, 0), 98);
        x.inn(3);
        c.due("two came", x.chance(1, 0), 79);
    }

    private static void words(Check c) {
        RiddleRoad x = Check.told("gate1blind;walker5 6knows0;price0 0 7;wear8;change0");
        c.due("kind", x.gate(0, 0), 2);
        c.due("ear", x.walker(0, 2), 6);
        c.due("knows", x.walker(0, 3), 1);
        c.due("price", x.price(0, 0), 7);
        c.wrongRoad(x, "gategate 1", 0);
        c.wrongRoad(x, "gate 1 blindfalse", 7);
        c.wrongRoad(x, "g ate 1", 0);
        c.wrongRoad(x, "stillgate 1", 0);
        c.wrongRoad(x, "gat", 0);
        c.wrongRoad(x, "Gate 1", 0);
        c.wrongRoad(x, "gatE 1", 0);
        c.wrongRoad(x, "gat{ 1", 0);
        c.wrongRoad(x, "gat` 1", 0);
        c.wrongLaw(x, "neverif monday", 0);
        c.wrongLaw(x, "never ifnot monday", 6);
        Check.law(x, "hard1if2<3and(monday)or not(monday)");
        c.due("without blanks", x.chance(0, 0), 5);
    }

    private static void blanks(Check c) {
        RiddleRoad x = new RiddleRoad();
        c.due("many", Check.road(x, "   gate   4   blind   ;   walker   5   6   knows   0   "), 1);
        c.due("toll", x.gate(0, 1), 4);
        c.due("knows", x.walker(0, 3), 1);
        Check.law(x, "  hard  2  if  (  not  1  <  2  +  3  or  monday  )  ;  hard  1  ");
        c.due("of a law", x.chance(0, 0), 3);
        c.wrongRoad(x, "still\t", 5);
        c.wrongRoad(x, "\nstill", 0);
        c.wrongRoad(x, "gate\u00001", 4);
        c.wrongRoad(x, "gate\u00a01", 4);
        c.wrongRoad(x, "still\u001f", 5);
        c.wrongRoad(x, "still!", 5);
        c.wrongRoad(x, "gate 1 2", 7);
    }

    private static void empty(Check c) {
        RiddleRoad x = new RiddleRoad();
        c.due("an empty text", x.road(), 1);
        c.due("without a fault", x.fault(), -1);
        c.due("blanks alone", Check.road(x, " "), 2);
        c.due("of a full tape", Check.road(x, " ".repeat(400)), 3);
        c.due("without a fault, too", x.fault(), -1);
        c.due("an empty law", x.law(), 0);
        c.due("which has no line", x.count(3), 0);
        c.due("a law of blanks", Check.law(x, " ".repeat(400)), 0);
        c.wrongRoad(x, ";", 0);
        c.wrongRoad(x, "  ;", 2);
        c.wrongLaw(x, ";", 0);
    }

    private static void sixDeep(Check c) {
        RiddleRoad x = Check.told(ROAD);
        holds(c, x, "((((((monday))))))", true);
        holds(c, x, "not not not not not not monday", true);
        holds(c, x, "not not not not not monday", false);
        holds(c, x, "not (not (not (monday)))", false);
        holds(c, x, "(((not not not monday)))", false);
        holds(c, x, "((((((monday)))))) and ((((((monday))))))", true);
        holds(c, x, "(monday) and (monday) and (monday) and (monday) and (monday) and (monday) and (monday)", true);
        holds(c, x, "(((((monday or not monday) and not monday) or monday)))", true);
        c.wrongLaw(x, "hard 1 if (((((((monday)))))))", 16);
        c.due("the one before stays", x.chance(0, 1), 79);
    }

    private static void firstOfSeveral(Check c) {
        RiddleRoad x = new RiddleRoad();
        c.wrongRoad(x, "gate 100;gate 100", 5);
        c.wrongRoad(x, "gate 1;gate 100;x", 12);
        c.wrongRoad(x, "gate 1 x y z", 7);
        c.wrongRoad(x, "gate  ;  ;", 6);
        c.wrongLaw(x, "hard 1 if ) ) )", 10);
        c.wrongLaw(x, "hard 1 if gate  gate", 16);
    }

    private static void moreDigits(Check c) {
        RiddleRoad x = Check.told(ROAD);
        c.wrongRoad(x, "gate 0000", 5);
        c.wrongRoad(x, "walker 00000 0", 7);
        c.wrongRoad(x, "walker 0 0000", 9);
        c.wrongRoad(x, "wear 00000000000000000000", 5);
        c.wrongRoad(x, "wear 4294967296", 5);
        c.wrongRoad(x, "wear " + "0".repeat(395), 5);
        c.wrongLaw(x, "hard 0000", 5);
        c.wrongLaw(x, "hard 4294967297", 5);
        c.wrongLaw(x, "hard 1 if gate < 0000", 17);
    }

    private static void outOfBounds(Check c) {
        RiddleRoad x = Check.told(ROAD);
        c.wrongRoad(x, "gate 100", 5);
        c.wrongRoad(x, "gate  0 closed  8", 16);
        c.wrongRoad(x, "walker 5 100", 9);
        c.wrongRoad(x, "price 0 0 100", 10);
        c.wrongRoad(x, "wear 100", 5);
        c.wrongRoad(x, "wear -1", 5);
    }

    private static void noneThere(Check c) {
        RiddleRoad x = Check.told(ROAD);
        c.wrongRoad(x, "gate 0 double 3", 14);
        c.wrongRoad(x, "walker 5 5 knows 0 3", 19);
        c.wrongRoad(x, "price 3 0 0", 6);
        c.wrongRoad(x, "price 0 3 0", 8);
        c.wrongRoad(x, "change 0 3", 9);
        c.wrongRoad(x, "liar 3", 5);
        RiddleRoad y = new RiddleRoad();
        c.wrongRoad(y, "walker 5 5 knows 0", 17);
        c.wrongRoad(y, "change 0", 7);
        c.wrongRoad(y, "liar 0", 5);
    }

    private static void noWord(Check c) {
        RiddleRoad x = Check.told(ROAD);
        c.wrongRoad(x, "gates 1", 0);
        c.wrongRoad(x, "still;door 1", 6);
        c.wrongRoad(x, "gate 1 open", 7);
        c.wrongRoad(x, "walker 1 1 has 0", 11);
        c.wrongLaw(x, "soft 1", 0);
        c.wrongLaw(x, "hard 1 when monday", 7);
        c.wrongLaw(x, "hard 1 if tuesday", 10);
        c.wrongLaw(x, "hard 1 if gate < walker", 17);
        c.wrongLaw(x, "hard 1 if monday xor monday", 17);
    }

    private static void seventh(Check c) {
        RiddleRoad x = Check.told(ROAD);
        c.wrongLaw(x, "hard 1 if (((((((", 16);
        c.wrongLaw(x, "hard 1 if not not not not not not not monday", 34);
        c.wrongLaw(x, "hard 1 if ((((((not monday))))))", 16);
        c.wrongLaw(x, "hard 1 if not not not not not not (monday)", 34);
        c.wrongLaw(x, "hard 1 if ( not ( not ( not  not monday ) ) )", 29);
        c.wrongLaw(x, "hard 1 if ((((((monday and (", 27);
        c.wrongLaw(x, "hard 1 if ((((((monday)))))) or (((((((", 38);
    }

    private static void lineTooMany(Check c) {
        RiddleRoad x = Check.told(ROAD);
        c.wrongRoad(x, "still;".repeat(14) + "still", 84);
        c.wrongRoad(x, "still;".repeat(14) + "   still", 87);
        c.wrongRoad(x, "still;".repeat(14) + "wear 100", 84);
        c.wrongRoad(x, "still;".repeat(14), 84);
        c.wrongLaw(x, "never;".repeat(12) + "never", 72);
        c.wrongLaw(x, "never;".repeat(12) + "   hard 1000", 75);
        c.wrongLaw(x, "never;".repeat(12), 72);
    }

    private static void gateOrWalkerTooMany(Check c) {
        RiddleRoad x = Check.told(EdgeRoadTest.gates(12));
        c.wrongRoad(x, "gate 0", 0);
        c.wrongRoad(x, "still;  gate 100 double", 8);
        Check.road(x, EdgeRoadTest.walkers(8));
        c.wrongRoad(x, "walker 0 0", 0);
        c.wrongRoad(x, "still;  walker 10000 knows", 8);
        RiddleRoad y = Check.told(EdgeRoadTest.gates(11) + ";walker 1 1");
        c.wrongRoad(y, "gate 0;gate 0", 7);
        c.wrongRoad(y, EdgeRoadTest.walkers(8), 77);
    }

    private static void moreMustCome(Check c) {
        RiddleRoad x = Check.told(ROAD);
        c.wrongRoad(x, "gate", 4);
        c.wrongRoad(x, "gate ", 5);
        c.wrongRoad(x, "gate 0 double", 13);
        c.wrongRoad(x, "gate 0 closed   ", 16);
        c.wrongRoad(x, "walker", 6);
        c.wrongRoad(x, "walker 5", 8);
        c.wrongRoad(x, "walker 5 5 knows", 16);
        c.wrongRoad(x, "price", 5);
        c.wrongRoad(x, "price 0", 7);
        c.wrongRoad(x, "price 0 0", 9);
        c.wrongRoad(x, "wear", 4);
        c.wrongRoad(x, "change", 6);
        c.wrongRoad(x, "liar", 4);
        c.wrongRoad(x, "still;", 6);
        c.wrongRoad(x, "still;" + " ".repeat(394), 400);
        c.wrongLaw(x, "hard", 4);
        c.wrongLaw(x, "never if", 8);
        c.wrongLaw(x, "never if not", 12);
        c.wrongLaw(x, "never if (", 10);
        c.wrongLaw(x, "never if (monday", 16);
        c.wrongLaw(x, "never if gate", 13);
        c.wrongLaw(x, "never if gate +", 15);
        c.wrongLaw(x, "never if gate >", 15);
        c.wrongLaw(x, "never if monday and", 19);
        c.wrongLaw(x, "never;", 6);
        c.wrongLaw(x, "never;" + " ".repeat(394), 400);
    }

    private static void nothingStays(Check c) {
        RiddleRoad x = Check.told(ROAD);
        Check.law(x, "hard 3");
        String before = Check.all(x);
        c.wrongRoad(x, "gate 1 double 2;walker 5 5 knows 0;price 0 0 9;price 3 3 9;wear 9;change 1 3;liar 0;liar 3;x", 91);
        c.due("the road", Check.all(x), before);
        c.wrongRoad(x, "walker 5 5 knows 0 1;wear 9;still;", 34);
        c.due("the road again", Check.all(x), before);
        c.wrongLaw(x, "hard 9;never;x", 13);
        c.due("the law", Check.all(x), before);
        c.due("a right text behind it", Check.road(x, "gate 5;walker 6 7"), 2);
        c.due("nothing of the new gate was kept", x.gate(3, 0), 0);
        c.due("nor of the new walker", x.walker(3, 3) + x.walker(3, 5), 0);
        c.due("nor of its prices", x.price(3, 3), -1);
    }
}
