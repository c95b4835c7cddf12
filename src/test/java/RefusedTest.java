import java.util.LinkedHashMap;
import java.util.Map;
import java.util.NoSuchElementException;
import java.util.function.ToLongFunction;

/**
 * What the document says of exceptions: which comes first, and that a call that throws changes nothing else. Two objects
 * are made alike, one of them makes the call; then both must tell the same, be undone alike and go back alike.
 */
public final class RefusedTest {
    private static final Class<IndexOutOfBoundsException> NO_SUCH = IndexOutOfBoundsException.class;
    private static final Class<IllegalArgumentException> WRONG = IllegalArgumentException.class;
    private static final Class<IllegalStateException> REFUSED = IllegalStateException.class;
    private static final Class<UnsupportedOperationException> FULL = UnsupportedOperationException.class;
    private static final Class<NoSuchElementException> NO_WHAT = NoSuchElementException.class;

    interface Call {
        void on(RiddleRoad x);
    }

    public static void main(String[] args) {
        Check c = new Check();
        sentences(c);
        c.close();
    }

    static void sentences(Check c) {
        c.sentence("Of several exceptions the one told first is thrown;", RefusedTest::order);
        c.sentence("a call that throws changes nothing but the TAPE, where it is used up,", RefusedTest::changesNothing);
        c.sentence("and fault(), where a text is read (also by one that is refused).", RefusedTest::textsOfRefused);
        c.sentence("IndexOutOfBoundsException: there is no such GATE, WALKER, CHAIN.", RefusedTest::noSuch);
        c.sentence("IllegalStateException: it is refused.", RefusedTest::refused);
        c.sentence("Nothing is promised beyond the answers and state changes described above", RefusedTest::looksChangeNothing);
    }

    /**
     * Three gates and four walkers: 0 is behind the last gate, 1 has no coins, 2 is full of them, 3 stands at a gate that
     * is closed to it. There is a law, an image, a fault, a tape of three letters, six chains, and five acts to be undone.
     */
    private static RiddleRoad whole() {
        RiddleRoad x = Check.told("gate 1;gate 0;gate 2 closed 3;walker 9 0 knows 0 1 2;walker 0 0 knows 1;walker 9999 50 knows 0;"
                + "walker 5 99 knows 0 1 2;price 0 0 4;price 2 0 1;price 1 2 0;wear 50;change 2;liar 0");
        Check.law(x, "hard 7;never if gate > 1");
        Check.chain(x, "abc");
        Check.chain(x, "abd");
        x.seed(77);
        x.image();
        for (int i = 0; i < 4; i++) {
            Check.chain(x, "ab" + (char) ('p' + i));
        }
        try {
            Check.road(x, "wear 1 x");
        } catch (IllegalArgumentException e) {
            // The fault is wanted.
        }
        x.pass(0);
        x.pass(0);
        x.pass(0);
        x.pass(3);
        x.pass(3);
        Check.put(x, "abc");
        return x;
    }

    private static String looks(RiddleRoad x) {
        return Check.all(x) + ", fault " + x.fault() + ", questions " + x.questions(false) + " " + x.questions(true);
    }

    /** The call throws this, and then the object is as one that did not make it, but for the tape. */
    private static void same(Check c, String what, Class<? extends RuntimeException> kind, boolean usesTape, Call call) {
        RiddleRoad plain = whole();
        RiddleRoad tried = whole();
        c.refused(what, kind, () -> call.on(tried));
        sameNow(c, what, plain, tried, usesTape ? 0 : 3);
    }

    private static void sameNow(Check c, String what, RiddleRoad plain, RiddleRoad tried, int tape) {
        c.due("all behind " + what, looks(tried), looks(plain));
        c.due("the tape behind " + what, Check.taped(tried, tape), true);
        for (int i = 0; i < 2; i++) {
            c.due("undoing behind " + what, tried.undo(), plain.undo());
        }
        c.due("what was undone behind " + what, Check.all(tried), Check.all(plain));
        c.due("going back behind " + what, tried.back(), plain.back());
        c.due("the image behind " + what, Check.all(tried), Check.all(plain));
    }

    private static void order(Check c) {
        RiddleRoad x = whole();
        c.refused("gate and what", NO_SUCH, () -> x.gate(3, 6));
        c.refused("walker and what", NO_SUCH, () -> x.walker(4, 6));
        c.refused("seller, both are one", NO_SUCH, () -> x.sell(4, 4, 0));
        c.refused("gate, both are one", NO_SUCH, () -> x.sell(0, 0, 3));
        c.refused("both are one, and refused", WRONG, () -> x.sell(1, 1, 0));
        c.refused("gate, and refused", NO_SUCH, () -> x.sell(1, 2, -1));
        c.refused("walker, and no such way", NO_SUCH, () -> x.cheapest(4, 9, true));
        c.refused("walker, and millionths", NO_SUCH, () -> x.tries(-1, 0, -1));
        c.refused("gate, and millionths", NO_SUCH, () -> x.tries(0, -1, 1000001));
        for (int i = 1; i < 10; i++) {
            Check.road(x, i == 1 ? "" : "still");
            c.due("texts", x.count(2), i + 1);
        }
        c.refused("a wrong 11th text", WRONG, () -> Check.road(x, "still x"));
        c.refused("an 11th text", FULL, () -> Check.road(x, "still"));
        c.refused("a wrong 7th chain", WRONG, () -> Check.chain(x, "abcd"));
        c.refused("a 7th chain", FULL, () -> Check.chain(x, "abc"));
    }

    private static void changesNothing(Check c) {
        changesNoLook(c);
        changesNoAct(c);
        changesNoPlan(c);
        same(c, "a short chain", WRONG, true, x -> {
            x.end(2);
            x.chain();
        });
        same(c, "a 7th chain", FULL, true, RiddleRoad::chain);
        same(c, "a lie of letters", WRONG, true, x -> x.lie(0));
        same(c, "a lie of no keepers", WRONG, true, x -> x.lie(-1));
        same(c, "a lie of too many keepers", WRONG, true, x -> {
            x.end(0);
            Check.put(x, "TTT");
            x.lie(13);
        });
    }

    private static void changesNoLook(Check c) {
        same(c, "gate", NO_SUCH, false, x -> x.gate(3, 0));
        same(c, "gate what", NO_WHAT, false, x -> x.gate(0, 6));
        same(c, "walker", NO_SUCH, false, x -> x.walker(4, 0));
        same(c, "walker what", NO_WHAT, false, x -> x.walker(0, -1));
        same(c, "since of no walker", NO_SUCH, false, x -> x.since(4, 0));
        same(c, "since of no gate", NO_SUCH, false, x -> x.since(0, 3));
        same(c, "price of no walker", NO_SUCH, false, x -> x.price(4, 0));
        same(c, "price of no gate", NO_SUCH, false, x -> x.price(0, 3));
        same(c, "may of no walker", NO_SUCH, false, x -> x.may(4, 0, true));
        same(c, "may of no gate", NO_SUCH, false, x -> x.may(0, 3, false));
        same(c, "chance of no walker", NO_SUCH, false, x -> x.chance(4, 0));
        same(c, "chance of no gate", NO_SUCH, false, x -> x.chance(0, 3));
        same(c, "letter of no chain", NO_SUCH, false, x -> x.letter(6, 0));
        same(c, "letter of no gate", NO_SUCH, false, x -> x.letter(0, 3));
    }

    private static void changesNoAct(Check c) {
        same(c, "pass of no walker", NO_SUCH, false, x -> x.pass(4));
        same(c, "pass behind the last gate", REFUSED, false, x -> x.pass(0));
        same(c, "pass without the answer", REFUSED, false, x -> x.pass(1));
        same(c, "pass where it is closed", REFUSED, false, x -> x.pass(3));
        same(c, "guess of no walker", NO_SUCH, false, x -> x.guess(-1));
        same(c, "guess behind the last gate", REFUSED, false, x -> x.guess(0));
        same(c, "sale of no walker", NO_SUCH, false, x -> x.sell(4, 0, 0));
        same(c, "sale to no walker", NO_SUCH, false, x -> x.sell(0, 4, 0));
        same(c, "sale of no gate", NO_SUCH, false, x -> x.sell(0, 1, 3));
        same(c, "sale to oneself", WRONG, false, x -> x.sell(0, 0, 0));
        same(c, "sale without coins", REFUSED, false, x -> x.sell(0, 1, 0));
        same(c, "sale to one who has it", REFUSED, false, x -> x.sell(0, 2, 0));
        same(c, "sale by one who has it not", REFUSED, false, x -> x.sell(1, 2, 2));
        same(c, "sale without a price", REFUSED, false, x -> x.sell(3, 1, 0));
        same(c, "walk back of no walker", NO_SUCH, false, x -> x.walkBack(4));
        same(c, "no days", WRONG, false, x -> x.days(0));
        same(c, "too many days", WRONG, false, x -> x.days(100));
        same(c, "no drawn days", WRONG, false, x -> x.live(0));
        same(c, "too many drawn days", WRONG, false, x -> x.live(100));
        RiddleRoad full = Check.told("gate 0;walker 9999 0 knows 0;walker 9 0;price 0 0 1");
        String before = Check.all(full);
        c.refused("sale to a full purse", REFUSED, () -> full.sell(0, 1, 0));
        c.due("all behind a sale to a full purse", Check.all(full), before);
        RiddleRoad poor = Check.told("gate 2;walker 1 0 knows 0");
        String poorBefore = Check.all(poor);
        c.refused("pass without coins", REFUSED, () -> poor.pass(0));
        c.due("all behind a pass without coins", Check.all(poor), poorBefore);
    }

    private static void changesNoPlan(Check c) {
        same(c, "a way of no walker", NO_SUCH, false, x -> x.cheapest(4, 0, true));
        same(c, "a way to no gate", WRONG, false, x -> x.cheapest(1, 4, false));
        same(c, "a way back", WRONG, false, x -> x.cheapest(0, 2, false));
        same(c, "a convoy of nobody", WRONG, false, x -> x.convoy(16, 0, false));
        same(c, "a convoy to no gate", WRONG, false, x -> x.convoy(1, 4, false));
        same(c, "tries of no walker", NO_SUCH, false, x -> x.tries(4, 0, 0));
        same(c, "tries at no gate", NO_SUCH, false, x -> x.tries(0, 3, 0));
        same(c, "tries of no millionths", WRONG, false, x -> x.tries(0, 0, -1));
        same(c, "tries of too many millionths", WRONG, false, x -> x.tries(0, 0, 1000001));
        same(c, "apart at no gate", NO_SUCH, false, x -> x.apart(3));
        same(c, "monday of too many gates", WRONG, false, x -> x.monday(4));
        same(c, "monday of fewer than none", WRONG, false, x -> x.monday(-1));
    }

    /** A wrong text changes the fault; one that is right and one too many takes it away. */
    private static void textsOfRefused(Check c) {
        Map<String, ToLongFunction<RiddleRoad>> readers = new LinkedHashMap<>();
        readers.put("road", RiddleRoad::road);
        readers.put("law", RiddleRoad::law);
        readers.forEach((what, reader) -> {
            RiddleRoad plain = whole();
            RiddleRoad tried = whole();
            c.refused("a wrong " + what, WRONG, () -> reader.applyAsLong(tried));
            c.due("its fault", tried.fault(), 0);
            c.wrongLaw(plain, "  x", 0);
            sameNow(c, "a wrong " + what, plain, tried, 0);
        });
        RiddleRoad x = new RiddleRoad();
        for (int i = 0; i < 10; i++) {
            Check.road(x, i == 0 ? "gate 0;walker 5 5 knows 0" : "still");
        }
        x.inn(1);
        String before = Check.all(x);
        c.wrongLaw(x, "x", 0);
        c.refused("one too many", FULL, () -> Check.road(x, "gate 5;wear 5;walker 6 6"));
        c.due("it was read", x.fault(), -1);
        c.wrongRoad(x, "gate 5;wear 5;walker 6 6 6", 25);
        c.refused("one without a line", FULL, x::road);
        c.due("it was read, too", x.fault(), -1);
        c.due("nothing else changed", Check.all(x), before);
        c.due("the inn can be undone", x.undo(), true);
        c.wrongRoad(x, "gate", 4);
        c.refused("a chain of letters too many", WRONG, () -> Check.chain(x, "abc"));
        c.refused("a lie of letters", WRONG, () -> Check.lie(x, "x", 0));
        c.due("neither is a text that is read", x.fault(), 4);
    }

    private static void noSuch(Check c) {
        int[] none = {-1, 12, 31, 32, 64, Integer.MIN_VALUE, Integer.MAX_VALUE};
        RiddleRoad x = whole();
        for (int n : none) {
            c.refused("gate " + n, NO_SUCH, () -> x.gate(n, 0));
            c.refused("walker " + n, NO_SUCH, () -> x.walker(n, 0));
            c.refused("chain " + n, NO_SUCH, () -> x.letter(n, 0));
            c.refused("apart " + n, NO_SUCH, () -> x.apart(n));
            c.refused("may " + n, NO_SUCH, () -> x.may(0, n, true));
            c.refused("pass " + n, NO_SUCH, () -> x.pass(n));
        }
        c.refused("one gate more than there are", NO_SUCH, () -> x.gate(3, 0));
        c.refused("one walker more than there are", NO_SUCH, () -> x.walker(4, 0));
        c.refused("one chain more than there are", NO_SUCH, () -> x.letter(6, 0));
        c.due("the last gate", x.gate(2, 0), 4);
        c.due("the last walker", x.walker(3, 2), 99);
        c.due("the last chain", x.letter(5, 2), 's');
    }

    private static void refused(Check c) {
        RiddleRoad x = whole();
        c.refused("behind the last gate", REFUSED, () -> x.pass(0));
        c.refused("nothing to guess there", REFUSED, () -> x.guess(0));
        c.refused("no coins for it", REFUSED, () -> x.sell(0, 1, 0));
        c.refused("closed", REFUSED, () -> x.pass(3));
        c.due("one may guess where it is closed", x.guess(3), false);
    }

    private static void looksChangeNothing(Check c) {
        Map<String, Call> calls = new LinkedHashMap<>();
        calls.put("gate", x -> x.gate(0, 0));
        calls.put("since", x -> x.since(0, 0));
        calls.put("price", x -> x.price(0, 0));
        calls.put("may", x -> x.may(0, 0, true));
        calls.put("chance", x -> x.chance(0, 0));
        calls.put("cheapest", x -> x.cheapest(1, 3, true));
        calls.put("convoy", x -> x.convoy(7, 3, false));
        calls.put("tries", x -> x.tries(3, 0, 5));
        calls.put("bring", x -> x.bring(7));
        calls.put("apart", x -> x.apart(0));
        calls.put("letter", x -> x.letter(0, 0));
        calls.put("questions", x -> x.questions(true));
        calls.put("monday", x -> x.monday(2));
        calls.put("count", x -> x.count(12));
        calls.put("fault", RiddleRoad::fault);
        calls.put("end beyond", x -> x.end(4));
        calls.put("end below", x -> x.end(-1));
        calls.forEach((what, call) -> {
            RiddleRoad plain = whole();
            RiddleRoad looked = whole();
            call.on(looked);
            sameNow(c, what, plain, looked, 3);
        });
    }
}
