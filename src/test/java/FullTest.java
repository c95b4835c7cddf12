/** As many gates, walkers, lines and chains as there may be, and what is asked of the last of them. */
public final class FullTest {
    public static void main(String[] args) {
        Check c = new Check();
        RiddleRoad x = full();
        looks(c, x);
        plans(c, x);
        acts(c, x);
        days(c, x);
        c.close();
    }

    /** Walker w knows all gates up to w, the last one also those behind; each sells all at 10 and its number. */
    private static RiddleRoad full() {
        RiddleRoad x = new RiddleRoad();
        String three = "gate 1;gate 1;gate 1";
        Check.road(x, three + ";" + three + ";" + three + ";gate 1;gate 1 singing;gate 1 blind");
        StringBuilder walkers = new StringBuilder("wear 9;change 11 0");
        String knows = " knows";
        for (int w = 0; w < 8; w++) {
            knows += " " + w;
            walkers.append(";walker 50 ").append(w < 7 ? 0 : 99).append(w < 7 ? knows : knows + " 8 9 10 11");
        }
        Check.road(x, walkers.toString());
        for (int w = 0; w < 8; w++) {
            StringBuilder prices = new StringBuilder("liar 6");
            for (int g = 0; g < 12; g++) {
                prices.append(";price ").append(w).append(' ').append(g).append(' ').append(10 + w);
            }
            Check.road(x, prices.toString());
        }
        for (int i = 0; i < 6; i++) {
            Check.chain(x, "aaaaaaaaaaa" + "zyxwvu".charAt(i));
        }
        return x;
    }

    private static void looks(Check c, RiddleRoad x) {
        int[] due = {12, 8, 10, -1, 0, 9, 2049, 0, 400, 6, 0, 0, 1 + 2 + 3 + 4 + 5 + 6 + 7 + 12};
        for (int what = 0; what < due.length; what++) {
            c.due("count " + what, x.count(what), due[what]);
        }
        c.due("who stand at 0", x.gate(0, 3), 8);
        c.due("who have the first", x.gate(0, 4), 8);
        c.due("who have the last", x.gate(11, 4), 1);
        c.due("what the last one has", x.walker(7, 3), 4095);
        c.due("price of the last", x.price(7, 11), 17);
        c.due("may the last", x.may(7, 11, true), true);
        c.due("chance of the last at the last", x.chance(7, 11), 99);
        c.due("the last letter", x.letter(5, 11), 'u');
        c.due("the only question", x.questions(false), 1);
        c.due("is the last gate's", x.questions(true), 11);
    }

    private static void plans(Check c, RiddleRoad x) {
        c.due("to the end", x.cheapest(0, 12, false), 12 + 11 + 12 + 13 + 14 + 15 + 16 + 17 + 4 * 17);
        c.due("all but the first", x.cheapest(0, 12, true), 4094);
        c.due("all together to the end", x.convoy(255, 12, false), 96);
        c.due("all but the last", x.convoy(127, 12, true), 4095 - 127);
        c.due("whom to bring", x.bring(4095), 128);
        c.due("whom to keep apart from the first", x.apart(0), 255);
        c.due("whom to keep apart from the last", x.apart(11), 128);
        c.due("the gates with most sellers", x.monday(5), 31);
        c.due("all gates", x.monday(12), 4095);
        c.due("tries", x.tries(7, 11, 0), 5);
        c.due("a lie at the last", Check.lie(x, "TTTTTTTTTTTF", 0), 2048);
    }

    private static void acts(Check c, RiddleRoad x) {
        c.due("a sale of the last answer", x.sell(7, 0, 11), 17);
        for (int g = 1; g <= 12; g++) {
            c.due("pass " + g, x.pass(7), g);
        }
        c.due("one is behind all", x.count(11), 1);
        c.due("only the latest twelve are remembered", x.count(10), 12);
        c.due("all meet", x.inn(-1), 8 * 12 - (1 + 2 + 3 + 4 + 5 + 6 + 7 + 12) - 1);
        c.due("the sixth has all", x.walker(6, 4), 4095);
        c.due("coins of all", x.count(8), 388);
    }

    private static void days(Check c, RiddleRoad x) {
        c.due("six days", x.days(6), 6);
        c.due("seven pass on the day ahead of the change", x.live(1), 7);
        c.due("changed", x.count(12), 8 * 10);
        c.due("nobody has the last", x.gate(11, 4), 0);
        c.due("none has the first any more, but all are beyond it", x.live(2), 14);
        c.due("not worn off yet", x.count(12), 8 * 10);
        c.due("they pass ahead of the tenth day", x.live(1), 7);
        c.due("worn off", x.count(12), 0);
        Check.law(x, "never;never;never;never;never;never;never;never;never;never;never;never");
        c.due("nobody guesses any more", x.live(99), 0);
        c.due("nor passes", x.count(11), 1);
    }
}
