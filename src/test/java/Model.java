import java.util.ArrayList;
import java.util.Comparator;
import java.util.List;
import java.util.NoSuchElementException;
import java.util.TreeMap;
import java.util.TreeSet;
import java.util.function.BiPredicate;
import java.util.function.ToIntBiFunction;

/** The document a second time, with sets, maps and a search of all sets: runs by chance are compared with it. */
final class Model {
    static final int NONE = -1;

    static final class Gate {
        int kind;
        int toll;
        int other = NONE;
    }

    record Known(int since, boolean truth) {
    }

    static final class Walker {
        int number;
        int at;
        int coins;
        int ear;
        boolean liar;
        final TreeMap<Integer, Known> known = new TreeMap<>();
        final TreeMap<Integer, Integer> prices = new TreeMap<>();

        Walker copy() {
            Walker w = new Walker();
            w.number = number;
            w.at = at;
            w.coins = coins;
            w.ear = ear;
            w.liar = liar;
            w.known.putAll(known);
            w.prices.putAll(prices);
            return w;
        }

        TreeSet<Integer> truths() {
            TreeSet<Integer> set = new TreeSet<>();
            known.forEach((g, k) -> {
                if (k.truth()) {
                    set.add(g);
                }
            });
            return set;
        }
    }

    record LawLine(boolean never, int hard, BiPredicate<Walker, Integer> holds) {
    }

    static final class State {
        final List<Gate> gates = new ArrayList<>();
        final List<Walker> walkers = new ArrayList<>();
        int texts;
        int wear;
        final TreeSet<Integer> change = new TreeSet<>();
        int day;
        int chest;
        int seed = 1;
        List<LawLine> law;

        State copy() {
            State s = new State();
            s.gates.addAll(gates);
            for (Walker w : walkers) {
                s.walkers.add(w.copy());
            }
            s.texts = texts;
            s.wear = wear;
            s.change.addAll(change);
            s.day = day;
            s.chest = chest;
            s.seed = seed;
            s.law = law;
            return s;
        }
    }

    static final class Fault extends Exception {
        private static final long serialVersionUID = 1L;
        final int at;

        Fault(int at) {
            this.at = at;
        }
    }

    private StringBuilder tape = new StringBuilder();
    private State s = new State();
    private List<String> chains = new ArrayList<>();
    private final List<State> past = new ArrayList<>();
    private State image;
    private List<String> imageChains;
    private int fault = NONE;

    int feed(int a, int b, int c, int d, int e) {
        if (tape.length() + 20 > 400) {
            return NONE;
        }
        for (int n : new int[] {a, b, c, d, e}) {
            tape.append((char) (n >> 24 & 255)).append((char) (n >> 16 & 255))
                    .append((char) (n >> 8 & 255)).append((char) (n & 255));
        }
        return tape.length();
    }

    boolean end(int n) {
        if (n < 0 || n > tape.length()) {
            return false;
        }
        tape.setLength(n);
        return true;
    }

    private String useTape() {
        String text = tape.toString();
        tape = new StringBuilder();
        return text;
    }

    // ---- texts

    /** Takes things off the front of a text. */
    private static final class Cursor {
        final String text;
        int at;

        Cursor(String text) {
            this.text = text;
            blanks();
        }

        void blanks() {
            while (at < text.length() && text.charAt(at) == ' ') {
                at++;
            }
        }

        boolean ended() {
            return at == text.length();
        }

        private String run(String signs) {
            int to = at;
            while (to < text.length() && signs.indexOf(text.charAt(to)) >= 0) {
                to++;
            }
            return text.substring(at, to);
        }

        String word() {
            return run("abcdefghijklmnopqrstuvwxyz");
        }

        String digits() {
            return run("0123456789");
        }

        boolean take(String thing) {
            boolean letters = Character.isLetter(thing.charAt(0));
            boolean there = letters ? word().equals(thing) : text.startsWith(thing, at);
            if (there) {
                at += thing.length();
                blanks();
            }
            return there;
        }

        int number(int most, int greatest) throws Fault {
            String digits = digits();
            if (digits.isEmpty() || digits.length() > most || Integer.parseInt(digits) > greatest) {
                throw new Fault(at);
            }
            at += digits.length();
            blanks();
            return Integer.parseInt(digits);
        }

        Fault fault() {
            return new Fault(at);
        }
    }

    int road() {
        String text = useTape();
        State draft = s.copy();
        try {
            Cursor c = new Cursor(text);
            for (int line = 1; !c.ended() || line > 1; line++) {
                if (line > 14) {
                    throw c.fault();
                }
                roadLine(c, draft);
                if (c.ended()) {
                    break;
                }
                if (!c.take(";")) {
                    throw c.fault();
                }
            }
            fault = NONE;
        } catch (Fault f) {
            fault = f.at;
            throw new IllegalArgumentException();
        }
        if (s.texts == 10) {
            throw new UnsupportedOperationException();
        }
        s = draft;
        s.texts++;
        past.clear();
        return s.texts;
    }

    private void roadLine(Cursor c, State d) throws Fault {
        int at = c.at;
        if (c.take("gate")) {
            if (d.gates.size() == 12) {
                throw new Fault(at);
            }
            Gate g = new Gate();
            g.toll = c.number(3, 99);
            List<String> kinds = List.of("double", "blind", "singing", "closed", "false");
            for (int k = 0; k < kinds.size() && g.kind == 0; k++) {
                if (c.take(kinds.get(k))) {
                    g.kind = k + 1;
                }
            }
            if (g.kind == 1) {
                g.other = c.number(3, d.gates.size() - 1);
            }
            if (g.kind == 4) {
                g.other = c.number(3, 7);
            }
            d.gates.add(g);
        } else if (c.take("walker")) {
            if (d.walkers.size() == 8) {
                throw new Fault(at);
            }
            Walker w = new Walker();
            w.number = d.walkers.size();
            w.coins = c.number(4, 9999);
            w.ear = c.number(3, 99);
            if (c.take("knows")) {
                for (int g : gateList(c, d)) {
                    w.known.put(g, new Known(d.day, true));
                }
            }
            d.walkers.add(w);
        } else if (c.take("price")) {
            int w = c.number(3, d.walkers.size() - 1);
            int g = c.number(3, d.gates.size() - 1);
            d.walkers.get(w).prices.put(g, c.number(3, 99));
        } else if (c.take("wear")) {
            d.wear = c.number(3, 99);
        } else if (c.take("change")) {
            TreeSet<Integer> list = gateList(c, d);
            d.change.clear();
            d.change.addAll(list);
        } else if (c.take("still")) {
            d.change.clear();
        } else if (c.take("liar")) {
            d.walkers.get(c.number(3, d.walkers.size() - 1)).liar = true;
        } else {
            throw c.fault();
        }
    }

    private TreeSet<Integer> gateList(Cursor c, State d) throws Fault {
        TreeSet<Integer> list = new TreeSet<>();
        do {
            list.add(c.number(3, d.gates.size() - 1));
        } while (!c.digits().isEmpty());
        return list;
    }

    int law() {
        Cursor c = new Cursor(useTape());
        List<LawLine> lines = new ArrayList<>();
        try {
            while (!c.ended() || !lines.isEmpty()) {
                if (lines.size() == 12) {
                    throw c.fault();
                }
                lines.add(lawLine(c));
                if (c.ended()) {
                    break;
                }
                if (!c.take(";")) {
                    throw c.fault();
                }
            }
            fault = NONE;
        } catch (Fault f) {
            fault = f.at;
            throw new IllegalArgumentException();
        }
        s.law = lines;
        past.clear();
        return lines.size();
    }

    private LawLine lawLine(Cursor c) throws Fault {
        boolean never = c.take("never");
        if (!never && !c.take("hard")) {
            throw c.fault();
        }
        int hard = never ? 0 : c.number(3, 999);
        return new LawLine(never, hard, c.take("if") ? some(c, 0) : (w, g) -> true);
    }

    private BiPredicate<Walker, Integer> some(Cursor c, int depth) throws Fault {
        BiPredicate<Walker, Integer> left = all(c, depth);
        while (c.take("or")) {
            left = left.or(all(c, depth));
        }
        return left;
    }

    private BiPredicate<Walker, Integer> all(Cursor c, int depth) throws Fault {
        BiPredicate<Walker, Integer> left = atom(c, depth);
        while (c.take("and")) {
            left = left.and(atom(c, depth));
        }
        return left;
    }

    private BiPredicate<Walker, Integer> atom(Cursor c, int depth) throws Fault {
        int at = c.at;
        boolean open = c.take("(");
        if (open || c.take("not")) {
            if (depth == 6) {
                throw new Fault(at);
            }
            if (!open) {
                return atom(c, depth + 1).negate();
            }
            BiPredicate<Walker, Integer> inner = some(c, depth + 1);
            if (!c.take(")")) {
                throw c.fault();
            }
            return inner;
        }
        if (c.take("monday")) {
            return (w, g) -> s.day % 7 == 0;
        }
        ToIntBiFunction<Walker, Integer> left = sum(c);
        boolean less = c.take("<");
        if (!less && !c.take(">")) {
            throw c.fault();
        }
        ToIntBiFunction<Walker, Integer> right = sum(c);
        return (w, g) -> less ? left.applyAsInt(w, g) < right.applyAsInt(w, g)
                : left.applyAsInt(w, g) > right.applyAsInt(w, g);
    }

    private ToIntBiFunction<Walker, Integer> sum(Cursor c) throws Fault {
        List<ToIntBiFunction<Walker, Integer>> parts = new ArrayList<>();
        do {
            parts.add(part(c));
        } while (c.take("+"));
        return (w, g) -> parts.stream().mapToInt(p -> p.applyAsInt(w, g)).sum();
    }

    private ToIntBiFunction<Walker, Integer> part(Cursor c) throws Fault {
        if (c.take("gate")) {
            return (w, g) -> g;
        } else if (c.take("kind")) {
            return (w, g) -> s.gates.get(g).kind;
        } else if (c.take("toll")) {
            return (w, g) -> s.gates.get(g).toll;
        } else if (c.take("day")) {
            return (w, g) -> s.day % 7;
        } else if (c.take("coins")) {
            return (w, g) -> w.coins;
        } else if (c.take("known")) {
            return (w, g) -> w.known.size();
        } else if (c.take("ear")) {
            return (w, g) -> w.ear;
        }
        int number = c.number(3, 999);
        return (w, g) -> number;
    }

    int fault() {
        return fault;
    }

    // ---- looks

    private Gate gateOf(int g) {
        if (g < 0 || g >= s.gates.size()) {
            throw new IndexOutOfBoundsException();
        }
        return s.gates.get(g);
    }

    private Walker walkerOf(int w) {
        if (w < 0 || w >= s.walkers.size()) {
            throw new IndexOutOfBoundsException();
        }
        return s.walkers.get(w);
    }

    private static int bits(Iterable<Integer> set) {
        int bits = 0;
        for (int g : set) {
            bits |= 1 << g;
        }
        return bits;
    }

    private static TreeSet<Integer> setOf(int bits, int size) {
        TreeSet<Integer> set = new TreeSet<>();
        for (int i = 0; i < size; i++) {
            if ((bits & 1 << i) != 0) {
                set.add(i);
            }
        }
        return set;
    }

    private List<Walker> members(int bits) {
        return setOf(bits, s.walkers.size()).stream().map(s.walkers::get).toList();
    }

    int gate(int gate, int what) {
        Gate g = gateOf(gate);
        return switch (what) {
            case 0 -> g.kind;
            case 1 -> g.toll;
            case 2 -> g.other;
            case 3 -> (int) s.walkers.stream().filter(w -> w.at == gate).count();
            case 4 -> (int) s.walkers.stream().filter(w -> w.known.containsKey(gate)).count();
            case 5 -> s.change.contains(gate) ? 1 : 0;
            default -> throw new NoSuchElementException();
        };
    }

    int walker(int walker, int what) {
        Walker w = walkerOf(walker);
        return switch (what) {
            case 0 -> w.at;
            case 1 -> w.coins;
            case 2 -> w.ear;
            case 3 -> bits(w.known.keySet());
            case 4 -> bits(w.truths());
            case 5 -> w.liar ? 1 : 0;
            default -> throw new NoSuchElementException();
        };
    }

    int since(int walker, int gate) {
        Walker w = walkerOf(walker);
        gateOf(gate);
        return w.known.containsKey(gate) ? w.known.get(gate).since() : NONE;
    }

    int price(int walker, int gate) {
        Walker w = walkerOf(walker);
        gateOf(gate);
        return w.prices.getOrDefault(gate, NONE);
    }

    private TreeSet<Integer> asked(int gate) {
        TreeSet<Integer> set = new TreeSet<>();
        Gate g = s.gates.get(gate);
        boolean last = gate == s.gates.size() - 1;
        set.add(g.kind == 2 && !last ? gate + 1 : gate);
        if (g.kind == 1) {
            set.add(g.other);
        }
        return set;
    }

    boolean may(int walker, int gate, boolean sure) {
        Walker w = walkerOf(walker);
        Gate g = gateOf(gate);
        if (g.kind == 4 && g.other == walker) {
            return false;
        }
        for (int a : asked(gate)) {
            Known k = w.known.get(a);
            if (k == null || sure && !k.truth() && g.kind != 5) {
                return false;
            }
        }
        return true;
    }

    int chance(int walker, int gate) {
        Walker w = walkerOf(walker);
        gateOf(gate);
        int chance = w.ear;
        for (LawLine line : s.law == null ? List.<LawLine>of() : s.law) {
            if (line.holds().test(w, gate)) {
                if (line.never()) {
                    return 0;
                }
                chance -= line.hard();
            }
        }
        // A never line further on still takes all.
        for (LawLine line : s.law == null ? List.<LawLine>of() : s.law) {
            if (line.never() && line.holds().test(w, gate)) {
                return 0;
            }
        }
        return Math.max(0, chance);
    }

    // ---- acts

    private void remember() {
        past.add(s.copy());
        if (past.size() > 12) {
            past.remove(0);
        }
    }

    private boolean canPass(Walker w) {
        return w.at < s.gates.size() && may(w.number, w.at, false) && w.coins >= s.gates.get(w.at).toll;
    }

    /** Whether it was no trap. */
    private boolean doPass(Walker w) {
        int at = w.at;
        Gate g = s.gates.get(at);
        boolean sure = may(w.number, at, true);
        w.coins -= g.toll;
        s.chest += g.toll;
        if (!sure) {
            w.at = 0;
            for (int a : asked(at)) {
                if (!w.known.get(a).truth()) {
                    w.known.remove(a);
                }
            }
            return false;
        }
        w.at++;
        if (g.kind == 3) {
            for (Walker o : s.walkers) {
                if (o != w && o.at == at) {
                    o.known.putIfAbsent(at, new Known(s.day, w.known.get(at).truth()));
                }
            }
        }
        return true;
    }

    int pass(int walker) {
        Walker w = walkerOf(walker);
        if (!canPass(w)) {
            throw new IllegalStateException();
        }
        remember();
        doPass(s.walkers.get(walker));
        return s.walkers.get(walker).at;
    }

    private boolean doGuess(Walker w) {
        int chance = chance(w.number, w.at);
        s.seed = (int) (1103515245L * s.seed + 12345L);
        int draw = (int) ((s.seed & 0xffffffffL) / 65536 % 32768);
        if (draw % 100 < chance) {
            w.known.put(w.at, new Known(s.day, true));
            return true;
        }
        if (w.coins > 0) {
            w.coins--;
            s.chest++;
        }
        return false;
    }

    boolean guess(int walker) {
        if (walkerOf(walker).at >= s.gates.size()) {
            throw new IllegalStateException();
        }
        remember();
        return doGuess(s.walkers.get(walker));
    }

    private boolean canSell(Walker from, Walker to, int g) {
        return from.known.containsKey(g) && from.prices.containsKey(g) && !to.known.containsKey(g)
                && to.coins >= from.prices.get(g) && from.coins + from.prices.get(g) <= 9999;
    }

    private void doSell(Walker from, Walker to, int g) {
        int price = from.prices.get(g);
        from.coins += price;
        to.coins -= price;
        to.known.put(g, new Known(s.day, from.known.get(g).truth() && !from.liar));
    }

    int sell(int seller, int buyer, int gate) {
        Walker from = walkerOf(seller);
        Walker to = walkerOf(buyer);
        gateOf(gate);
        if (seller == buyer) {
            throw new IllegalArgumentException();
        }
        if (!canSell(from, to, gate)) {
            throw new IllegalStateException();
        }
        remember();
        doSell(from, to, gate);
        return from.prices.get(gate);
    }

    int inn(int walkers) {
        remember();
        List<Walker> guests = members(walkers);
        TreeMap<Integer, Boolean> told = new TreeMap<>();
        for (Walker w : guests) {
            w.known.forEach((g, k) -> told.merge(g, k.truth(), Boolean::logicalOr));
        }
        int[] came = new int[1];
        for (Walker w : guests) {
            told.forEach((g, truth) -> {
                if (!w.known.containsKey(g)) {
                    w.known.put(g, new Known(s.day, truth));
                    came[0]++;
                }
            });
        }
        return came[0];
    }

    int walkBack(int walker) {
        Walker w = walkerOf(walker);
        if (w.at > 0) {
            w.at--;
        }
        return w.at;
    }

    private void dayMore() {
        s.day++;
        for (Walker w : s.walkers) {
            if (s.day % 7 == 0) {
                w.known.keySet().removeAll(s.change);
            }
            w.known.values().removeIf(k -> s.wear != 0 && s.day - k.since() > s.wear);
        }
    }

    int days(int n) {
        if (n < 1 || n > 99) {
            throw new IllegalArgumentException();
        }
        for (int i = 0; i < n; i++) {
            dayMore();
        }
        past.clear();
        return s.day;
    }

    int seed(int n) {
        int old = s.seed;
        s.seed = n;
        return old;
    }

    // ---- plans

    private Walker seller(int gate) {
        return s.walkers.stream().filter(w -> w.known.containsKey(gate) && w.prices.containsKey(gate))
                .min(Comparator.comparingInt(w -> w.prices.get(gate))).orElse(null);
    }

    /** Tries all sets of answers. */
    private int plan(List<Walker> members, int to, boolean set) {
        TreeSet<Integer> had = new TreeSet<>();
        members.forEach(w -> had.addAll(w.known.keySet()));
        int best = NONE;
        int bestCost = 0;
        for (int bits = 0; bits < 1 << s.gates.size(); bits++) {
            TreeSet<Integer> bought = setOf(bits, 12);
            int cost = costOf(members, to, had, bought);
            if (cost == NONE) {
                continue;
            }
            boolean better = best == NONE || cost < bestCost
                    || cost == bestCost && Integer.bitCount(bits) < Integer.bitCount(best);
            if (better) {
                best = bits;
                bestCost = cost;
            }
        }
        return best == NONE || set ? best : bestCost;
    }

    private int costOf(List<Walker> members, int to, TreeSet<Integer> had, TreeSet<Integer> bought) {
        int cost = 0;
        for (int g : bought) {
            if (had.contains(g) || seller(g) == null) {
                return NONE;
            }
            cost += seller(g).prices.get(g);
        }
        TreeSet<Integer> all = new TreeSet<>(had);
        all.addAll(bought);
        for (Walker w : members) {
            for (int g = w.at; g < to; g++) {
                Gate gate = s.gates.get(g);
                if (gate.kind == 4 && gate.other == w.number || !all.containsAll(asked(g))) {
                    return NONE;
                }
                cost += gate.toll;
            }
        }
        return cost;
    }

    int cheapest(int walker, int to, boolean set) {
        Walker w = walkerOf(walker);
        if (to < 0 || to > s.gates.size() || to < w.at) {
            throw new IllegalArgumentException();
        }
        return plan(List.of(w), to, set);
    }

    int convoy(int walkers, int to, boolean set) {
        if (members(walkers).isEmpty() || to < 0 || to > s.gates.size()) {
            throw new IllegalArgumentException();
        }
        return plan(members(walkers), to, set);
    }

    int tries(int walker, int gate, int millionths) {
        int chance = chance(walker, gate);
        if (millionths < 0 || millionths > 1000000) {
            throw new IllegalArgumentException();
        }
        long doubt = 1000000000L;
        int n = 0;
        while (doubt > 1000L * millionths) {
            if (n == 99) {
                return NONE;
            }
            n++;
            doubt = doubt * (100 - chance) / 100;
        }
        return n;
    }

    private boolean togetherPass(int walkers, int gates) {
        TreeSet<Integer> had = new TreeSet<>();
        members(walkers).forEach(w -> had.addAll(w.known.keySet()));
        return setOf(gates, s.gates.size()).stream().allMatch(g -> had.containsAll(asked(g)));
    }

    int bring(int gates) {
        for (int size = 0; size <= 8; size++) {
            for (int set = 0; set < 1 << s.walkers.size(); set++) {
                if (Integer.bitCount(set) == size && togetherPass(set, gates)) {
                    return set;
                }
            }
        }
        return NONE;
    }

    int apart(int gate) {
        gateOf(gate);
        for (int size = 0; size <= 8; size++) {
            for (int set = 0; set < 1 << s.walkers.size(); set++) {
                if (Integer.bitCount(set) == size && !togetherPass(~set, 1 << gate)) {
                    return set;
                }
            }
        }
        throw new AssertionError("all kept away leave nobody who passes");
    }

    int chain() {
        String row = useTape();
        if (row.length() != s.gates.size() || !row.chars().allMatch(c -> c >= 'a' && c <= 'z')) {
            throw new IllegalArgumentException();
        }
        if (chains.size() == 6) {
            throw new UnsupportedOperationException();
        }
        chains.add(row);
        return chains.size() - 1;
    }

    int letter(int chain, int gate) {
        if (chain < 0 || chain >= chains.size()) {
            throw new IndexOutOfBoundsException();
        }
        gateOf(gate);
        return gate < chains.get(chain).length() ? chains.get(chain).charAt(gate) : NONE;
    }

    int forget() {
        int n = chains.size();
        chains.clear();
        return n;
    }

    /** The fewest questions that part these, or 99. */
    private int toPart(List<String> rows, int shortest) {
        if (rows.size() < 2) {
            return 0;
        }
        int best = 99;
        for (int g = 0; g < shortest; g++) {
            best = Math.min(best, toPartFrom(rows, g, shortest));
        }
        return best;
    }

    private int toPartFrom(List<String> rows, int gate, int shortest) {
        TreeMap<Character, List<String>> byLetter = new TreeMap<>();
        rows.forEach(r -> byLetter.computeIfAbsent(r.charAt(gate), l -> new ArrayList<>()).add(r));
        if (byLetter.size() == 1) {
            return 99;
        }
        int worst = 0;
        for (List<String> part : byLetter.values()) {
            worst = Math.max(worst, toPart(part, shortest));
        }
        return Math.min(99, worst + 1);
    }

    int questions(boolean first) {
        int shortest = chains.stream().mapToInt(String::length).min().orElse(0);
        int n = toPart(chains, shortest);
        if (n == 99) {
            return NONE;
        }
        if (!first) {
            return n;
        }
        for (int g = 0; n > 0 && g < shortest; g++) {
            if (toPartFrom(chains, g, shortest) == n) {
                return g;
            }
        }
        return NONE;
    }

    int lie(int e) {
        String said = useTape();
        if (said.length() != s.gates.size() || !said.matches("[TF?]*") || e < 0 || e > 12) {
            throw new IllegalArgumentException();
        }
        int bits = 0;
        for (int g = 0; g < said.length(); g++) {
            StringBuilder truth = new StringBuilder("T".repeat(said.length()));
            truth.setCharAt(g, 'F');
            int wrong = 0;
            for (int i = 0; i < said.length(); i++) {
                if (said.charAt(i) != '?' && said.charAt(i) != truth.charAt(i)) {
                    wrong++;
                }
            }
            if (wrong <= e) {
                bits |= 1 << g;
            }
        }
        return bits;
    }

    int monday(int n) {
        if (n < 0 || n > s.gates.size()) {
            throw new IllegalArgumentException();
        }
        int best = NONE;
        int fewest = 0;
        for (int set = 0; set < 1 << s.gates.size(); set++) {
            int left = 0;
            for (Walker w : s.walkers) {
                for (int g : w.known.keySet()) {
                    left += w.prices.containsKey(g) && (set >> g & 1) == 0 ? 1 : 0;
                }
            }
            if (Integer.bitCount(set) == n && (best == NONE || left < fewest)) {
                best = set;
                fewest = left;
            }
        }
        return best;
    }

    int live(int days) {
        if (days < 1 || days > 99) {
            throw new IllegalArgumentException();
        }
        int passes = 0;
        for (int i = 0; i < days; i++) {
            for (Walker w : s.walkers) {
                if (w.at >= s.gates.size()) {
                    continue;
                }
                if (canPass(w)) {
                    passes += doPass(w) ? 1 : 0;
                } else if (chance(w.number, w.at) > 0) {
                    doGuess(w);
                } else if (seller(w.at) != null && canSell(seller(w.at), w, w.at)) {
                    doSell(seller(w.at), w, w.at);
                }
            }
            dayMore();
        }
        past.clear();
        return passes;
    }

    boolean undo() {
        if (past.isEmpty()) {
            return false;
        }
        s = past.remove(past.size() - 1);
        return true;
    }

    void image() {
        image = s.copy();
        imageChains = new ArrayList<>(chains);
    }

    boolean back() {
        if (image == null) {
            return false;
        }
        s = image.copy();
        chains = new ArrayList<>(imageChains);
        past.clear();
        return true;
    }

    int count(int what) {
        return switch (what) {
            case 0 -> s.gates.size();
            case 1 -> s.walkers.size();
            case 2 -> s.texts;
            case 3 -> s.law == null ? NONE : s.law.size();
            case 4 -> s.day;
            case 5 -> s.wear;
            case 6 -> bits(s.change);
            case 7 -> s.chest;
            case 8 -> s.walkers.stream().mapToInt(w -> w.coins).sum();
            case 9 -> chains.size();
            case 10 -> past.size();
            case 11 -> (int) s.walkers.stream().filter(w -> w.at >= s.gates.size()).count();
            case 12 -> s.walkers.stream().mapToInt(w -> w.known.size()).sum();
            default -> NONE;
        };
    }
}
