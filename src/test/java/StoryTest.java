/**
 * What the document says the road is, told as one story on one object. Walker 0 begins with two answers and an ear,
 * walker 1 with one answer and none, walker 2 sells and lies, walker 3 knows nothing.
 */
public final class StoryTest {
    private static final int ALL_COINS = 50 + 40 + 9 + 60;

    private final RiddleRoad x = new RiddleRoad();

    public static void main(String[] args) {
        Check c = new Check();
        sentences(c);
        c.close();
    }

    static void sentences(Check c) {
        StoryTest story = new StoryTest();
        c.sentence("gates of six kinds,", story::sixKinds);
        c.sentence("walkers who know some answers,", story::walkers);
        c.sentence("A road whose gates ask riddles:", story::riddles);
        c.sentence("coins, tolls,", story::tolls);
        c.sentence("singing gates from which one learns,", story::singing);
        c.sentence("a blind gate that asks for the one behind it,", story::blind);
        c.sentence("answers that are sold, some of them false,", story::sold);
        c.sentence("at which gate it was passed by a lie,", story::lie);
        c.sentence("guesses by the ear and a law in a text,", story::guesses);
        c.sentence("inns at which all is told,", story::inn);
        c.sentence("the cheapest way to a gate,", story::cheapest);
        c.sentence("whom one must bring together and whom keep apart,", story::together);
        c.sentence("chains told to be true and the fewest questions that part them,", story::chains);
        c.sentence("Monday's change that spoils the sellers,", story::spoiled);
        c.sentence("words that wear off and change on Mondays,", story::wear);
        c.sentence("days by draws,", story::draws);
        c.sentence("acts undone,", story::undone);
        c.sentence("coins that add up, and an image.", story::image);
    }

    private void addUp(Check c) {
        c.due("all coins", x.count(7) + x.count(8), x.count(1) == 0 ? 0 : ALL_COINS);
    }

    /** Fewer looks than Check.all makes: the story must end ahead of the 512th call. */
    private String looks() {
        StringBuilder all = new StringBuilder();
        for (int what = 0; what < 12; what++) {
            all.append(' ').append(x.count(what));
        }
        for (int w = 0; w < x.count(1); w++) {
            all.append(", ").append(x.walker(w, 0)).append(' ').append(x.walker(w, 1)).append(' ').append(x.walker(w, 4));
        }
        return all.toString();
    }

    private void sixKinds(Check c) {
        Check.road(x, "gate 1;gate 2 singing;gate 3 blind;gate 4 double 0;gate 5 closed 2;gate 6 false");
        int[] kinds = {0, 3, 2, 1, 4, 5};
        for (int g = 0; g < 6; g++) {
            c.due("kind of gate " + g, x.gate(g, 0), kinds[g]);
        }
        addUp(c);
    }

    private void walkers(Check c) {
        Check.road(x, "walker 50 90 knows 0 1;walker 40 0 knows 0;walker 9 0 knows 3 4;walker 60 50;price 2 3 2;price 2 4 3;liar 2");
        int[] known = {3, 1, 24, 0};
        for (int w = 0; w < 4; w++) {
            c.due("answers of walker " + w, x.walker(w, 3), known[w]);
        }
        c.due("all of them", x.count(12), 5);
        addUp(c);
    }

    private void riddles(Check c) {
        c.due("one knows the answer", x.may(0, 0, true), true);
        c.due("one does not", x.may(3, 0, false), false);
        c.refused("who does not pass", IllegalStateException.class, () -> x.pass(3));
    }

    private void tolls(Check c) {
        c.due("one goes on", x.pass(0), 1);
        c.due("so does another", x.pass(1), 1);
        c.due("a coin less", x.walker(0, 1), 49);
        c.due("a coin less of the other", x.walker(1, 1), 39);
        c.due("two in the chest", x.count(7), 2);
        addUp(c);
    }

    private void singing(Check c) {
        c.due("it opens to walker 0", x.pass(0), 2);
        c.due("walker 1 heard", x.walker(1, 4), 3);
        c.due("walker 3 is not there", x.walker(3, 3), 0);
        addUp(c);
    }

    private void blind(Check c) {
        Check.road(x, "walker 0 0 knows 2;walker 0 0 knows 3");
        c.due("not its own answer", x.may(4, 2, false), false);
        c.due("but that of the next", x.may(5, 2, false), true);
    }

    private void sold(Check c) {
        c.due("for two coins", x.sell(2, 0, 3), 2);
        c.due("it is had", x.walker(0, 3), 11);
        c.due("the two from before are true", x.walker(0, 4), 3);
        c.due("so one thinks that one may pass", x.may(0, 2, false), true);
        c.due("one surely may not", x.may(0, 2, true), false);
        addUp(c);
    }

    private void lie(Check c) {
        c.due("caught", x.pass(0), 0);
        c.due("the lie is forgotten", x.walker(0, 3), 3);
        c.due("all said what is so", Check.lie(x, "TTF???", 0), 4);
        c.due("or one did not", Check.lie(x, "TTF???", 1), 4 + 8 + 16 + 32);
        addUp(c);
    }

    private void guesses(Check c) {
        c.due("two lines", Check.law(x, "hard 30 if kind > 0;never if coins > 50"), 2);
        c.due("by the ear alone", x.chance(0, 0), 90);
        c.due("a hard one", x.chance(0, 1), 60);
        c.due("never", x.chance(3, 0), 0);
        c.due("a right guess", x.guess(0), true);
        c.due("a wrong one", x.guess(3), false);
        c.due("which costs a coin", x.walker(3, 1), 59);
        addUp(c);
    }

    private void inn(Check c) {
        c.due("two come to each of two", x.inn(1 + 4), 4);
        c.due("walker 0 has four", x.walker(0, 3), 27);
        c.due("walker 2, too", x.walker(2, 3), 27);
        c.due("all true", x.walker(0, 4), 27);
        addUp(c);
    }

    private void cheapest(Check c) {
        Check.road(x, "price 0 0 4;price 0 1 5;price 0 3 6");
        c.due("four answers and five tolls", x.cheapest(3, 5, false), 4 + 5 + 2 + 3 + 1 + 2 + 3 + 4 + 5);
        c.due("these four", x.cheapest(3, 5, true), 27);
        c.due("no way beyond the last gate", x.cheapest(3, 6, true), -1);
        c.due("no way for the one to whom it is closed", x.cheapest(2, 5, true), -1);
    }

    private void together(Check c) {
        c.due("walker 0 for two gates", x.bring(1 + 8), 1);
        c.due("with one who knows the third", x.bring(1 + 2 + 8), 1);
        c.due("nobody knows the last", x.bring(32), -1);
        c.due("three know what the blind one asks", x.apart(2), 1 + 4 + 32);
        c.due("three know the first", x.apart(0), 1 + 2 + 4);
    }

    private void chains(Check c) {
        c.due("one", Check.chain(x, "aabcde"), 0);
        c.due("two", Check.chain(x, "aabcdf"), 1);
        c.due("three", Check.chain(x, "bbbcdf"), 2);
        c.due("four", Check.chain(x, "bbbcde"), 3);
        c.due("two questions", x.questions(false), 2);
        c.due("of the first gate first", x.questions(true), 0);
    }

    private void spoiled(Check c) {
        c.due("the one that two sell", x.monday(1), 8);
        c.due("and the least of those that one sells", x.monday(2), 9);
    }

    private void wear(Check c) {
        Check.road(x, "wear 10;change 0");
        c.due("Sunday", x.days(6), 6);
        c.due("three know the first answer", x.gate(0, 4), 3);
        c.due("Monday", x.days(1), 7);
        c.due("nobody knows it", x.gate(0, 4), 0);
        c.due("the other ones stay", x.count(12), 9);
        c.due("for ten days", x.days(3), 10);
        c.due("they stay", x.count(12), 9);
        c.due("and no longer", x.days(1), 11);
        c.due("all are forgotten", x.count(12), 0);
        addUp(c);
    }

    private void draws(Check c) {
        x.seed(1);
        c.due("walker 0 guesses, and does not pass", x.live(1), 0);
        c.due("it was right", x.walker(0, 4), 1);
        c.due("walker 2 buys it", x.walker(2, 3), 1);
        c.due("for four coins", x.walker(2, 1), 11 - 4);
        c.due("walker 3 as well: the law leaves no guess", x.walker(3, 1), 59 - 4);
        c.due("walker 4 has no coin", x.walker(4, 3), 0);
        c.due("these three pass", x.live(1), 3);
        c.due("the second gate", x.gate(1, 3), 4);
        addUp(c);
    }

    private void undone(Check c) {
        String before = looks();
        x.inn(255);
        x.guess(0);
        c.due("two acts", x.count(10), 2);
        c.due("the guess", x.undo(), true);
        c.due("the inn", x.undo(), true);
        c.due("no more", x.undo(), false);
        c.due("all is as ahead of them", looks(), before);
    }

    private void image(Check c) {
        x.image();
        String kept = looks();
        for (int i = 0; i < 5; i++) {
            x.live(9);
            addUp(c);
        }
        c.due("many days later", x.count(4), 13 + 45);
        c.due("back", x.back(), true);
        c.due("as it was kept", looks(), kept);
        addUp(c);
    }
}
