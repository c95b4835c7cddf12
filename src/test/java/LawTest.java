/** Promises 5, 6 and 12: the law, its faults and the chance. */
public final class LawTest {
    public static void main(String[] args) {
        Check c = new Check();
        lines(c);
        sums(c);
        joining(c);
        deep(c);
        days(c);
        wrongTexts(c);
        wrongConditions(c);
        nothingStays(c);
        noSuch(c);
        c.close();
    }

    private static RiddleRoad world() {
        return Check.told("gate 7;gate 3 double 0;gate 0 false;walker 20 80 knows 0 2;walker 5 99;walker 0 0");
    }

    private static void chance(Check c, RiddleRoad x, String law, int due) {
        Check.law(x, law);
        c.due("chance of 0 at 1 by \"" + law + "\"", x.chance(0, 1), due);
    }

    private static void lines(Check c) {
        RiddleRoad x = world();
        c.due("no law", x.chance(0, 1), 80);
        c.due("no law yet", x.count(3), -1);
        c.due("two lines", Check.law(x, "hard 5;hard 6"), 2);
        c.due("the sum", x.chance(0, 1), 69);
        c.due("lines", x.count(3), 2);
        c.due("the tape is used up", x.end(1), false);
        c.due("no fault", x.fault(), -1);
        c.due("an empty law", Check.law(x, ""), 0);
        c.due("no lines", x.count(3), 0);
        c.due("in place of the one before", x.chance(0, 1), 80);
        c.due("a law of blanks", Check.law(x, "  "), 0);
        chance(c, x, "hard 80", 0);
        chance(c, x, "hard 79", 1);
        chance(c, x, "hard 999;hard 999", 0);
        chance(c, x, "hard 000", 80);
        chance(c, x, "never", 0);
        chance(c, x, "never;hard 5", 0);
        chance(c, x, "hard 5;never", 0);
        chance(c, x, "never if 1<1;hard 7", 73);
        chance(c, x, "hard 7 if 1<1;hard 8 if 0<1", 72);
        chance(c, x, "  hard7if0<1 ;  never  if  1 < 1  ", 73);
        c.due("of another walker", x.chance(1, 1), 92);
        c.due("0 at least", x.chance(2, 1), 0);
        String six = "hard 1;hard 1;hard 1;hard 1;hard 1;hard 1";
        c.due("twelve lines", Check.law(x, six + ";" + six), 12);
        c.due("all of them", x.chance(0, 1), 68);
    }

    private static void sums(Check c) {
        RiddleRoad x = world();
        chance(c, x, "hard 1 if gate > 0;hard 2 if gate < 1;hard 4 if gate < 2", 75);
        chance(c, x, "hard 1 if kind < 2;hard 2 if kind > 0;hard 4 if kind > 1", 77);
        chance(c, x, "hard 1 if toll < 4;hard 2 if toll > 2;hard 4 if toll > 3", 77);
        chance(c, x, "hard 1 if coins < 21;hard 2 if coins > 19;hard 4 if coins > 20", 77);
        chance(c, x, "hard 1 if known < 3;hard 2 if known > 1;hard 4 if known > 2", 77);
        chance(c, x, "hard 1 if ear < 81;hard 2 if ear > 79;hard 4 if ear > 80", 77);
        chance(c, x, "hard 1 if day < 1;hard 2 if day > 0", 79);
        chance(c, x, "hard 1 if 2+3 < 6;hard 2 if 2+3 > 4;hard 4 if 5 > 2 + 3;hard 8 if 4<2+3", 69);
        chance(c, x, "hard 1 if gate+kind+toll+day+coins+known+ear < 108", 79);
        chance(c, x, "hard 1 if gate+kind+toll+day+coins+known+ear > 106", 79);
        chance(c, x, "hard 1 if gate+kind+toll+day+coins+known+ear > 107", 80);
        chance(c, x, "hard 1 if 999 > 998;hard 2 if 007 < 8", 77);
        c.due("at the last gate", x.chance(0, 2), 77);
    }

    /** And binds more closely than or, not more closely than both. */
    private static void joining(Check c) {
        RiddleRoad x = world();
        String[] truths = {"0<1", "1<0"};
        for (int n = 0; n < 8; n++) {
            boolean p = (n & 1) == 0;
            boolean q = (n & 2) == 0;
            boolean r = (n & 4) == 0;
            String a = truths[n & 1];
            String b = truths[n >> 1 & 1];
            String d = truths[n >> 2];
            holds(c, x, a + " or " + b + " and " + d, p || q && r);
            holds(c, x, a + " and " + b + " or " + d, p && q || r);
            holds(c, x, a + " and " + b + " and " + d, p && q && r);
            holds(c, x, a + " or " + b + " or " + d, p || q || r);
            holds(c, x, "(" + a + " or " + b + ") and " + d, (p || q) && r);
            holds(c, x, a + " and (" + b + " or " + d + ")", p && (q || r));
            holds(c, x, "not " + a + " and " + b + " or not " + d, !p && q || !r);
            holds(c, x, "not (" + a + " or " + b + ") or not not " + d, !(p || q) || r);
            holds(c, x, a + " and not " + b + " and " + d, p && !q && r);
            holds(c, x, a + " or " + b + " and " + d + " or " + a + " and " + d, p || q && r || p && r);
        }
    }

    private static void holds(Check c, RiddleRoad x, String condition, boolean due) {
        chance(c, x, "hard 1 if " + condition, due ? 79 : 80);
    }

    private static void deep(Check c) {
        RiddleRoad x = world();
        chance(c, x, "hard 1 if not not not not not not monday", 79);
        chance(c, x, "hard 1 if ((((((monday))))))", 79);
        chance(c, x, "hard 1 if (not (not (not monday)))", 80);
        chance(c, x, "hard 1 if (monday) and ((((((monday)))))) and not not not not not not monday", 79);
        c.wrongLaw(x, "hard 1 if not not not not not not not monday", 34);
        c.wrongLaw(x, "hard 1 if (((((((monday)))))))", 16);
        c.wrongLaw(x, "hard 1 if (not (not (not (monday))))", 25);
        c.wrongLaw(x, "hard 1 if (not (not (not not monday)))", 25);
        c.wrongLaw(x, "hard 1 if monday or (((((((", 26);
        c.wrongLaw(x, "(".repeat(400), 0);
        c.wrongLaw(x, "hard 1 if 0" + "+1".repeat(194) + "+", 400);
        chance(c, x, "hard 1 if 0" + "+1".repeat(193) + "<9", 80);
        chance(c, x, "hard 1 if 9<0" + "+1".repeat(193), 79);
        chance(c, x, "hard 1 if 9<0" + "or 0<1 and not 1<0 ".repeat(20), 79);
        String deepest = "(0<1 and (1<0 or (0<1 and (1<0 or (0<1 and (1<0 or 0+0<1+1+1))))))";
        chance(c, x, "hard 1 if " + deepest, 79);
        chance(c, x, "hard 1 if 1<0 or 0<1 and " + deepest, 79);
    }

    private static void days(Check c) {
        RiddleRoad x = world();
        Check.law(x, "hard 1 if monday;hard 2 if day > 5;hard 4 if day < 1");
        c.due("day 0", x.chance(0, 1), 75);
        x.days(1);
        c.due("day 1", x.chance(0, 1), 80);
        x.days(5);
        c.due("day 6", x.chance(0, 1), 78);
        x.days(1);
        c.due("day 7", x.chance(0, 1), 75);
        x.days(1);
        c.due("day 8", x.chance(0, 1), 80);
        x.days(98);
        c.due("the law stays by day", x.count(3), 3);
    }

    private static void wrongTexts(Check c) {
        RiddleRoad x = world();
        c.wrongLaw(x, "hard", 4);
        c.wrongLaw(x, "hard ", 5);
        c.wrongLaw(x, "hard 1000", 5);
        c.wrongLaw(x, "hard 0001", 5);
        c.wrongLaw(x, "hard x", 5);
        c.wrongLaw(x, "hard if monday", 5);
        c.wrongLaw(x, "gate 1", 0);
        c.wrongLaw(x, "Never", 0);
        c.wrongLaw(x, ";", 0);
        c.wrongLaw(x, "never;", 6);
        c.wrongLaw(x, "never; ", 7);
        c.wrongLaw(x, "never never", 6);
        c.wrongLaw(x, "never 1", 6);
        c.wrongLaw(x, "never ifmonday", 6);
        c.wrongLaw(x, "hard 1 when monday", 7);
        String six = "never;never;never;never;never;never";
        c.wrongLaw(x, six + ";" + six + ";never", 72);
        c.wrongLaw(x, six + ";" + six + ";", 72);
        c.wrongLaw(x, six + ";" + six + "; 5", 73);
    }

    private static void wrongConditions(Check c) {
        RiddleRoad x = world();
        c.wrongLaw(x, "never if", 8);
        c.wrongLaw(x, "never if ;", 9);
        c.wrongLaw(x, "never if 1", 10);
        c.wrongLaw(x, "never if 1 and", 11);
        c.wrongLaw(x, "never if 1 <", 12);
        c.wrongLaw(x, "never if 1 < monday", 13);
        c.wrongLaw(x, "never if 1 < 2 <", 15);
        c.wrongLaw(x, "never if 1 + ", 13);
        c.wrongLaw(x, "never if 1 + + 2", 13);
        c.wrongLaw(x, "never if 1000 < 2", 9);
        c.wrongLaw(x, "never if 1 < 0002", 13);
        c.wrongLaw(x, "never if walker < 2", 9);
        c.wrongLaw(x, "never if monday < 2", 16);
        c.wrongLaw(x, "never if monday monday", 16);
        c.wrongLaw(x, "never if monday and", 19);
        c.wrongLaw(x, "never if monday or ;", 19);
        c.wrongLaw(x, "never if monday and or monday", 20);
        c.wrongLaw(x, "never if (monday", 16);
        c.wrongLaw(x, "never if (monday;never", 16);
        c.wrongLaw(x, "never if monday)", 15);
        c.wrongLaw(x, "never if ()", 10);
        c.wrongLaw(x, "never if (gate) < 2", 14);
        c.wrongLaw(x, "never if not", 12);
        c.wrongLaw(x, "never if not and", 13);
        c.wrongLaw(x, "never if gate = 2", 14);
        c.wrongLaw(x, "never if gate >", 15);
        c.wrongLaw(x, "never if 1 < 2 3", 15);
        c.wrongLaw(x, "never if mondays", 9);
        c.wrongLaw(x, "never if 1 < (2)", 13);
    }

    private static void nothingStays(Check c) {
        RiddleRoad x = world();
        Check.law(x, "hard 5");
        x.pass(0);
        c.wrongLaw(x, "hard 9;hard 9;x", 14);
        c.due("lines", x.count(3), 1);
        c.due("chance", x.chance(0, 1), 75);
        c.due("the tape is used up", x.end(1), false);
        c.due("what was done can be undone", x.count(10), 1);
        Check.law(x, "hard 6");
        c.due("a right law forgets what was done", x.count(10), 0);
        c.due("and is no text of the road", x.count(2), 1);
    }

    private static void noSuch(Check c) {
        RiddleRoad x = world();
        Class<IndexOutOfBoundsException> none = IndexOutOfBoundsException.class;
        c.refused("chance of no walker", none, () -> x.chance(3, 0));
        c.refused("chance below", none, () -> x.chance(-1, 0));
        c.refused("chance at no gate", none, () -> x.chance(0, 3));
        c.refused("chance at none below", none, () -> x.chance(0, -1));
    }
}
