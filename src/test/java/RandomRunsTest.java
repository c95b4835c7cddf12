import java.nio.charset.StandardCharsets;
import java.util.Random;

/** Runs by chance, of 512 calls each at most: every answer must be the model's. */
public final class RandomRunsTest {
    private static final int CALLS = 512;
    private static final int LONGEST_TURN = 50;
    private static final int ALL_LOOKS = 15 + 8 * (6 + 2 * 12);
    private static final int[] ODD = {-1, Integer.MIN_VALUE, Integer.MAX_VALUE, 8, 12, 13, 99, 100, 31, 32, -8};

    private final Random random;
    private final TextMaker texts;
    private final RiddleRoad x = new RiddleRoad();
    private final Model model = new Model();
    private int calls = 0;
    private String wrong = "";

    private RandomRunsTest(int run) {
        random = new Random(run);
        texts = new TextMaker(random);
    }

    private void same(String call, Check.Call real, Check.Call due) {
        calls++;
        String got = outcome(real);
        String want = outcome(due);
        if (!got.equals(want) && wrong.isEmpty()) {
            wrong = "call " + calls + ": " + call + " answered " + got + ", the model " + want;
        }
    }

    private static String outcome(Check.Call call) {
        try {
            return Long.toString(call.answer());
        } catch (RuntimeException e) {
            return e.getClass().getName();
        }
    }

    private static long bit(boolean b) {
        return b ? 1 : 0;
    }

    private int odd() {
        return ODD[random.nextInt(ODD.length)];
    }

    private int gate() {
        int gates = model.count(0);
        return random.nextInt(40) == 0 || gates == 0 ? odd() : random.nextInt(gates);
    }

    private int walker() {
        int walkers = model.count(1);
        return random.nextInt(40) == 0 || walkers == 0 ? odd() : random.nextInt(walkers);
    }

    private int bits(int size) {
        return random.nextInt(10) == 0 ? random.nextInt() : random.nextInt(1 << size);
    }

    private void put(String text) {
        int odd = odd();
        byte[] bytes = text.getBytes(StandardCharsets.ISO_8859_1);
        for (int from = 0; from < bytes.length || from == 0 && random.nextInt(4) == 0; from += 20) {
            int[] n = new int[5];
            for (int i = 0; i < 20; i++) {
                n[i / 4] = n[i / 4] << 8 | (from + i < bytes.length ? bytes[from + i] & 255 : random.nextInt(256));
            }
            same("feed", () -> x.feed(n[0], n[1], n[2], n[3], n[4]), () -> model.feed(n[0], n[1], n[2], n[3], n[4]));
        }
        if (random.nextInt(200) == 0) {
            for (int i = 0; i < 22; i++) {
                same("feed", () -> x.feed(odd, 1, 2, 3, 4), () -> model.feed(odd, 1, 2, 3, 4));
            }
        }
        int size = random.nextInt(60) == 0 ? bytes.length + random.nextInt(40) - 20 : bytes.length;
        same("end " + size, () -> bit(x.end(size)), () -> bit(model.end(size)));
    }

    private void putRoad(boolean whole) {
        put(texts.road(model.count(0), model.count(1), whole));
        same("road", x::road, model::road);
        same("fault", x::fault, model::fault);
    }

    private void putLaw() {
        put(texts.law());
        same("law", x::law, model::law);
        same("fault", x::fault, model::fault);
    }

    private void putOther() {
        if (random.nextInt(3) > 0) {
            put(texts.chain(model.count(0)));
            same("chain", x::chain, model::chain);
        } else {
            int e = random.nextInt(12) == 0 ? odd() : random.nextInt(4);
            put(texts.sayings(model.count(0)));
            same("lie " + e, () -> x.lie(e), () -> model.lie(e));
        }
    }

    private void look() {
        int w = walker();
        int g = gate();
        int what = random.nextInt(8) - 1;
        int counted = random.nextInt(15) - 1;
        boolean sure = random.nextBoolean();
        switch (random.nextInt(8)) {
            case 0 -> same("gate " + g + " " + what, () -> x.gate(g, what), () -> model.gate(g, what));
            case 1, 2 -> same("walker " + w + " " + what, () -> x.walker(w, what), () -> model.walker(w, what));
            case 3 -> same("since " + w + " " + g, () -> x.since(w, g), () -> model.since(w, g));
            case 4 -> same("price " + w + " " + g, () -> x.price(w, g), () -> model.price(w, g));
            case 5 -> same("may " + w + " " + g, () -> bit(x.may(w, g, sure)), () -> bit(model.may(w, g, sure)));
            case 6 -> same("chance " + w + " " + g, () -> x.chance(w, g), () -> model.chance(w, g));
            default -> same("count " + counted, () -> x.count(counted), () -> model.count(counted));
        }
    }

    /** One who may pass, if there is one; by a lie, if that can be. */
    private int passer(int from) {
        int walkers = model.count(1);
        int found = from;
        for (int i = 0; i < walkers; i++) {
            int w = (from + i) % walkers;
            int at = model.walker(w, 0);
            if (at < model.count(0) && model.may(w, at, false)) {
                found = w;
                if (!model.may(w, at, true)) {
                    return w;
                }
            }
        }
        return found;
    }

    /** Seller, buyer and answer of a sale that may be, if there is one. */
    private int[] trade(int w, int other, int g) {
        int walkers = model.count(1);
        int gates = model.count(0);
        int from = random.nextInt(1000);
        for (int i = 0; i < walkers * walkers * gates; i++) {
            int n = (from + i) % (walkers * walkers * gates);
            int[] t = {n % walkers, n / walkers % walkers, n / walkers / walkers};
            boolean sold = model.price(t[0], t[2]) >= 0 && model.since(t[0], t[2]) >= 0 && model.since(t[1], t[2]) < 0;
            if (sold && (random.nextInt(4) == 0 || model.price(t[0], t[2]) <= model.walker(t[1], 1))) {
                return t;
            }
        }
        return new int[] {w, other, g};
    }

    private void act() {
        int w = walker();
        int other = walker();
        int g = gate();
        int guests = bits(8);
        switch (random.nextInt(12)) {
            case 0, 1, 2, 3 -> {
                int one = random.nextInt(6) == 0 ? w : passer(Math.max(0, w & 7));
                same("pass " + one, () -> x.pass(one), () -> model.pass(one));
            }
            case 4, 5 -> same("guess " + w, () -> bit(x.guess(w)), () -> bit(model.guess(w)));
            case 6, 7, 8 -> {
                int[] t = random.nextInt(6) == 0 ? new int[] {w, other, g} : trade(w, other, g);
                same("sell " + t[0] + " " + t[1] + " " + t[2],
                        () -> x.sell(t[0], t[1], t[2]), () -> model.sell(t[0], t[1], t[2]));
            }
            case 9 -> same("inn " + guests, () -> x.inn(guests & 3), () -> model.inn(guests & 3));
            case 10 -> same("inn " + guests, () -> x.inn(guests), () -> model.inn(guests));
            default -> same("walkBack " + w, () -> x.walkBack(w), () -> model.walkBack(w));
        }
    }

    private void plan() {
        int w = walker();
        int g = gate();
        int to = random.nextInt(20) == 0 ? odd() : random.nextInt(model.count(0) + 1);
        int some = bits(8);
        int asked = bits(12);
        int millionths = random.nextInt(6) == 0 ? odd() : random.nextInt(1000001) >> random.nextInt(21);
        boolean set = random.nextBoolean();
        switch (random.nextInt(10)) {
            case 0, 1 -> same("cheapest " + w + " " + to, () -> x.cheapest(w, to, set), () -> model.cheapest(w, to, set));
            case 2, 3 -> same("convoy " + some + " " + to, () -> x.convoy(some, to, set), () -> model.convoy(some, to, set));
            case 4 -> same("tries " + w + " " + g + " " + millionths,
                    () -> x.tries(w, g, millionths), () -> model.tries(w, g, millionths));
            case 5 -> same("bring " + asked, () -> x.bring(asked), () -> model.bring(asked));
            case 6 -> same("apart " + g, () -> x.apart(g), () -> model.apart(g));
            case 7 -> same("letter", () -> x.letter(some & 7, g), () -> model.letter(some & 7, g));
            case 8 -> same("questions", () -> x.questions(set), () -> model.questions(set));
            default -> same("monday " + to, () -> x.monday(to), () -> model.monday(to));
        }
    }

    private void turn() {
        int n = random.nextInt(12) == 0 ? odd() : 1 + random.nextInt(random.nextInt(8) == 0 ? 99 : 3);
        switch (random.nextInt(10)) {
            case 0, 1 -> same("days " + n, () -> x.days(n), () -> model.days(n));
            case 2, 3 -> same("live " + n, () -> x.live(n), () -> model.live(n));
            case 4, 5, 6 -> same("undo", () -> bit(x.undo()), () -> bit(model.undo()));
            case 7 -> same("seed " + n, () -> x.seed(n), () -> model.seed(n));
            case 8 -> {
                if (random.nextInt(4) == 0) {
                    same("forget", x::forget, model::forget);
                } else {
                    calls++;
                    x.image();
                    model.image();
                }
            }
            default -> same("back", () -> bit(x.back()), () -> bit(model.back()));
        }
    }

    /** All that can be looked at. */
    private void lookAtAll() {
        for (int i = -1; i < 14; i++) {
            int what = i;
            same("count " + what, () -> x.count(what), () -> model.count(what));
        }
        for (int w = 0; w < model.count(1); w++) {
            for (int what = 0; what < 6; what++) {
                int a = w;
                int b = what;
                same("walker " + a + " " + b, () -> x.walker(a, b), () -> model.walker(a, b));
            }
            for (int g = 0; g < model.count(0); g++) {
                int a = w;
                int b = g;
                same("since " + a + " " + b, () -> x.since(a, b), () -> model.since(a, b));
                same("price " + a + " " + b, () -> x.price(a, b), () -> model.price(a, b));
            }
        }
    }

    private String run() {
        if (random.nextInt(10) > 0) {
            putRoad(true);
            putRoad(true);
        }
        int telling = random.nextInt(6) == 0 ? 8 : 2;
        boolean looksAtLast = random.nextInt(3) == 0;
        int most = CALLS - LONGEST_TURN - (looksAtLast ? ALL_LOOKS : 0);
        while (calls < most && wrong.isEmpty()) {
            int sort = random.nextInt(100);
            if (sort < telling) {
                putRoad(random.nextInt(6) == 0);
            } else if (sort < telling + 3) {
                putLaw();
            } else if (sort < 11) {
                putOther();
            } else if (sort < 38) {
                look();
            } else if (sort < 70) {
                act();
            } else if (sort < 88) {
                plan();
            } else {
                turn();
            }
        }
        if (looksAtLast) {
            lookAtAll();
        }
        return wrong;
    }

    public static void main(String[] args) {
        int runs = Integer.getInteger("runs", 600);
        int wrong = 0;
        for (int run = 0; run < runs && wrong < 5; run++) {
            String told = new RandomRunsTest(run).run();
            if (!told.isEmpty()) {
                wrong++;
                System.out.println("run " + run + ", " + told);
            }
        }
        System.out.println(runs + " runs, " + wrong + " wrong");
        System.exit(wrong > 0 ? 1 : 0);
    }
}
