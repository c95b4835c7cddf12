import java.util.NoSuchElementException;

/** A road whose gates ask riddles. ../shared/DOC.md says what each call does, promise by promise. */
public final class RiddleRoad {
    public static final int NONE = -1;

    private static final int MOST_GATES = 12;
    private static final int MOST_WALKERS = 8;
    private static final int MOST_COINS = 9999;
    private static final int MOST_DAYS = 99;
    private static final int MOST_TEXTS = 10;
    private static final int MOST_ROAD_LINES = 14;
    private static final int MOST_LAW_LINES = 12;
    private static final int MOST_LIES = 12;
    private static final int ALL_MILLIONTHS = 1000000;

    private final Tape tape = new Tape();
    private final Text text = new Text(tape);
    private final World now = new World();
    private final World draft = new World();
    private final RoadReader roadReader = new RoadReader(text, draft);
    private final LawReader lawReader = new LawReader(text);
    private final History history = new History();
    private final Chains chains = new Chains();
    private final World keptWorld = new World();
    private final Chains keptChains = new Chains();
    private boolean kept = false;
    private int wrongByte = NONE;

    public RiddleRoad() {
    }

    public int feed(int a, int b, int c, int d, int e) {
        if (!tape.hasRoom()) {
            return NONE;
        }
        tape.add(a);
        tape.add(b);
        tape.add(c);
        tape.add(d);
        tape.add(e);
        return tape.length;
    }

    public boolean end(int n) {
        if (n < 0 || n > tape.length) {
            return false;
        }
        tape.length = n;
        return true;
    }

    public int road() throws IllegalArgumentException, UnsupportedOperationException {
        text.split();
        tape.length = 0;
        draft.copy(now);
        boolean right = roadReader.readLines(MOST_ROAD_LINES);
        wrongByte = right ? NONE : text.start();
        if (!right) {
            throw new IllegalArgumentException("a wrong text of the road");
        }
        if (now.texts >= MOST_TEXTS) {
            throw new UnsupportedOperationException("all texts of the road are told");
        }
        draft.texts++;
        now.copy(draft);
        history.clear();
        return now.texts;
    }

    public int law() throws IllegalArgumentException {
        text.split();
        tape.length = 0;
        lawReader.clear();
        boolean right = lawReader.readLines(MOST_LAW_LINES);
        wrongByte = right ? NONE : text.start();
        if (!right) {
            throw new IllegalArgumentException("a wrong text of the law");
        }
        now.law = lawReader.written();
        history.clear();
        return now.law.lines;
    }

    public int fault() {
        return wrongByte;
    }

    public int gate(int gate, int what) throws IndexOutOfBoundsException, NoSuchElementException {
        checkGate(gate);
        switch (what) {
            case 0: return now.kind[gate];
            case 1: return now.toll[gate];
            case 2: return now.other[gate];
            case 3: return now.standingAt(gate);
            case 4: return now.having(gate);
            case 5: return now.change >> gate & 1;
            default: throw new NoSuchElementException("no such thing of a gate");
        }
    }

    public int walker(int walker, int what) throws IndexOutOfBoundsException, NoSuchElementException {
        checkWalker(walker);
        switch (what) {
            case 0: return now.at[walker];
            case 1: return now.coins[walker];
            case 2: return now.ear[walker];
            case 3: return now.has[walker];
            case 4: return now.sure[walker];
            case 5: return now.liars >> walker & 1;
            default: throw new NoSuchElementException("no such thing of a walker");
        }
    }

    public int since(int walker, int gate) throws IndexOutOfBoundsException {
        checkWalker(walker);
        checkGate(gate);
        return now.knows(walker, gate) ? now.since[walker][gate] : NONE;
    }

    public int price(int walker, int gate) throws IndexOutOfBoundsException {
        checkWalker(walker);
        checkGate(gate);
        return now.price[walker][gate];
    }

    public boolean may(int walker, int gate, boolean sure) throws IndexOutOfBoundsException {
        checkWalker(walker);
        checkGate(gate);
        return now.opensTo(walker, gate, sure);
    }

    public int chance(int walker, int gate) throws IndexOutOfBoundsException {
        checkWalker(walker);
        checkGate(gate);
        return now.chanceOf(walker, gate);
    }

    public int pass(int walker) throws IndexOutOfBoundsException, IllegalStateException {
        checkWalker(walker);
        if (!now.canPass(walker)) {
            throw new IllegalStateException("the pass is refused");
        }
        history.remember(now);
        now.passGate(walker);
        return now.at[walker];
    }

    public boolean guess(int walker) throws IndexOutOfBoundsException, IllegalStateException {
        checkWalker(walker);
        if (now.isBehindAll(walker)) {
            throw new IllegalStateException("there is no gate to guess at");
        }
        history.remember(now);
        return now.guessAnswer(walker, now.chanceOf(walker, now.at[walker]));
    }

    public int sell(int seller, int buyer, int gate)
            throws IndexOutOfBoundsException, IllegalArgumentException, IllegalStateException {
        checkWalker(seller);
        checkWalker(buyer);
        checkGate(gate);
        if (seller == buyer) {
            throw new IllegalArgumentException("seller and buyer are one");
        }
        if (!now.canSell(seller, buyer, gate)) {
            throw new IllegalStateException("the sale is refused");
        }
        history.remember(now);
        now.sellAnswer(seller, buyer, gate);
        return now.price[seller][gate];
    }

    public int inn(int walkers) {
        history.remember(now);
        return now.tellAll(walkers);
    }

    public int walkBack(int walker) throws IndexOutOfBoundsException {
        checkWalker(walker);
        now.at[walker] = Math.max(0, now.at[walker] - 1);
        return now.at[walker];
    }

    public int days(int n) throws IllegalArgumentException {
        checkDays(n);
        for (int i = 0; i < n; i++) {
            now.dayMore();
        }
        history.clear();
        return now.day;
    }

    public int seed(int n) {
        int before = now.seed;
        now.seed = n;
        return before;
    }

    public int cheapest(int walker, int to, boolean set) throws IndexOutOfBoundsException, IllegalArgumentException {
        checkWalker(walker);
        if (to > now.gates || to < now.at[walker]) {
            throw new IllegalArgumentException("no gate to which one can go on");
        }
        return Plans.purchases(now, 1 << walker, to, set);
    }

    public int convoy(int walkers, int to, boolean set) throws IllegalArgumentException {
        if ((walkers & now.allWalkers()) == 0) {
            throw new IllegalArgumentException("no walker is told");
        }
        if (to < 0 || to > now.gates) {
            throw new IllegalArgumentException("no gate to go to");
        }
        return Plans.purchases(now, walkers, to, set);
    }

    public int tries(int walker, int gate, int millionths) throws IndexOutOfBoundsException, IllegalArgumentException {
        checkWalker(walker);
        checkGate(gate);
        if (millionths < 0 || millionths > ALL_MILLIONTHS) {
            throw new IllegalArgumentException("not so many millionths");
        }
        return Plans.guessesNeeded(now.chanceOf(walker, gate), millionths);
    }

    public int bring(int gates) {
        return Plans.fewestWhoPass(now, gates);
    }

    public int apart(int gate) throws IndexOutOfBoundsException {
        checkGate(gate);
        return Plans.fewestKeptAway(now, gate);
    }

    public int chain() throws IllegalArgumentException, UnsupportedOperationException {
        int length = tape.length;
        tape.length = 0;
        if (length != now.gates || !tape.hasOnlyLetters(length)) {
            throw new IllegalArgumentException("not a letter for each gate");
        }
        if (chains.count >= Chains.MOST) {
            throw new UnsupportedOperationException("all chains are told");
        }
        return chains.add(tape.bytes, length);
    }

    public int letter(int chain, int gate) throws IndexOutOfBoundsException {
        if (chain < 0 || chain >= chains.count) {
            throw new IndexOutOfBoundsException("no such chain");
        }
        checkGate(gate);
        return gate < chains.lengths[chain] ? chains.letters[chain][gate] : NONE;
    }

    public int forget() {
        int before = chains.count;
        chains.count = 0;
        return before;
    }

    public int questions(boolean first) {
        return first ? chains.firstGate() : chains.fewestQuestions();
    }

    public int lie(int e) throws IllegalArgumentException {
        int length = tape.length;
        tape.length = 0;
        if (length != now.gates || !tape.hasOnlySayings(length)) {
            throw new IllegalArgumentException("not a saying for each gate");
        }
        if (e < 0 || e > MOST_LIES) {
            throw new IllegalArgumentException("not so many keepers");
        }
        return Plans.gatesOfLie(tape.bytes, length, e);
    }

    public int monday(int n) throws IllegalArgumentException {
        if (n < 0 || n > now.gates) {
            throw new IllegalArgumentException("not so many gates");
        }
        return Plans.worstChange(now, n);
    }

    public int live(int days) throws IllegalArgumentException {
        checkDays(days);
        int passes = 0;
        for (int i = 0; i < days; i++) {
            passes += now.drawnDay();
        }
        history.clear();
        return passes;
    }

    public boolean undo() {
        return history.undoLatest(now);
    }

    public void image() {
        keptWorld.copy(now);
        keptChains.copy(chains);
        kept = true;
    }

    public boolean back() {
        if (!kept) {
            return false;
        }
        now.copy(keptWorld);
        chains.copy(keptChains);
        history.clear();
        return true;
    }

    public int count(int what) {
        switch (what) {
            case 0: return now.gates;
            case 1: return now.walkers;
            case 2: return now.texts;
            case 3: return now.law.lines;
            case 4: return now.day;
            case 5: return now.wear;
            case 6: return now.change;
            case 7: return now.chest;
            case 8: return now.coinsOfAll();
            case 9: return chains.count;
            case 10: return history.count;
            case 11: return now.standingAt(now.gates);
            case 12: return now.answersOfAll();
            default: return NONE;
        }
    }

    private void checkGate(int gate) {
        if (gate < 0 || gate >= now.gates) {
            throw new IndexOutOfBoundsException("no such gate");
        }
    }

    private void checkWalker(int walker) {
        if (walker < 0 || walker >= now.walkers) {
            throw new IndexOutOfBoundsException("no such walker");
        }
    }

    private static void checkDays(int n) {
        if (n < 1 || n > MOST_DAYS) {
            throw new IllegalArgumentException("not so many days");
        }
    }

    /** The bytes that were fed and are not used up yet. */
    private static final class Tape {
        private static final int MOST = 400;
        private static final int FED_AT_ONCE = 20;

        private final int[] bytes = new int[MOST];
        private int length = 0;

        private boolean hasRoom() {
            return length <= MOST - FED_AT_ONCE;
        }

        private void add(int number) {
            for (int shift = 24; shift >= 0 && length < MOST; shift -= 8) {
                bytes[length] = number >>> shift & 255;
                length++;
            }
        }

        private boolean hasOnlyLetters(int size) {
            for (int i = 0; i < size && i < MOST; i++) {
                if (!Text.isLetter(bytes[i])) {
                    return false;
                }
            }
            return true;
        }

        private boolean hasOnlySayings(int size) {
            for (int i = 0; i < size && i < MOST; i++) {
                if (bytes[i] != 'T' && bytes[i] != 'F' && bytes[i] != '?') {
                    return false;
                }
            }
            return true;
        }
    }

    /** What a text can be made of. Of those without letters of their own the spelling is empty. */
    private enum Token {
        NUMBER(""), END(""), WRONG(""), ALWAYS(""),
        SEMICOLON(";"), OPEN("("), CLOSE(")"), PLUS("+"), LESS("<"), MORE(">"),
        GATE("gate"), DOUBLE("double"), BLIND("blind"), SINGING("singing"), CLOSED("closed"), FALSE("false"),
        WALKER("walker"), KNOWS("knows"), PRICE("price"), WEAR("wear"), CHANGE("change"), STILL("still"),
        LIAR("liar"), HARD("hard"), NEVER("never"), IF("if"), OR("or"), AND("and"), NOT("not"),
        MONDAY("monday"), KIND("kind"), TOLL("toll"), DAY("day"), COINS("coins"), KNOWN("known"), EAR("ear");

        private static final Token[] ALL = values();

        private final String spelling;

        Token(String spelling) {
            this.spelling = spelling;
        }
    }

    /** A text cut into tokens, and the place in it to which it has been read. */
    private static final class Text {
        private static final int BLANK = 0;
        private static final int LETTER = 1;
        private static final int DIGIT = 2;
        private static final int SIGN = 3;

        private final int[] bytes;
        private final Tape tape;
        private final Token[] tokens = new Token[Tape.MOST + 1];
        private final int[] starts = new int[Tape.MOST + 1];
        private final int[] ends = new int[Tape.MOST + 1];
        private int size = 0;
        private int place = 0;

        private Text(Tape tape) {
            this.tape = tape;
            this.bytes = tape.bytes;
            for (int i = 0; i < tokens.length; i++) {
                tokens[i] = Token.END;
            }
        }

        private static boolean isLetter(int b) {
            return b >= 'a' && b <= 'z';
        }

        private static int sortOf(int b) {
            if (b == ' ') {
                return BLANK;
            }
            if (isLetter(b)) {
                return LETTER;
            }
            return b >= '0' && b <= '9' ? DIGIT : SIGN;
        }

        private void split() {
            size = 0;
            place = 0;
            int before = BLANK;
            for (int i = 0; i < tape.length && i < Tape.MOST; i++) {
                int sort = sortOf(bytes[i]);
                boolean goesOn = sort == before && sort != SIGN;
                if (sort != BLANK && !goesOn) {
                    starts[size] = i;
                    size++;
                }
                if (sort != BLANK && size > 0) {
                    ends[size - 1] = i + 1;
                }
                before = sort;
            }
            for (int t = 0; t < size; t++) {
                tokens[t] = tokenFrom(starts[t], ends[t]);
            }
            tokens[size] = Token.END;
            starts[size] = tape.length;
        }

        private Token tokenFrom(int from, int to) {
            if (sortOf(bytes[from]) == DIGIT) {
                return Token.NUMBER;
            }
            for (int i = 0; i < Token.ALL.length; i++) {
                if (isSpelled(Token.ALL[i].spelling, from, to)) {
                    return Token.ALL[i];
                }
            }
            return Token.WRONG;
        }

        private boolean isSpelled(String spelling, int from, int to) {
            if (spelling.length() != to - from) {
                return false;
            }
            for (int i = 0; i < spelling.length(); i++) {
                if (spelling.charAt(i) != bytes[from + i]) {
                    return false;
                }
            }
            return true;
        }

        private Token token() {
            return tokens[place];
        }

        /** Where the next token begins: of a text that stopped being right here, its first wrong byte. */
        private int start() {
            return starts[place];
        }

        private void advance() {
            if (place < size) {
                place++;
            }
        }

        private boolean take(Token wanted) {
            if (tokens[place] != wanted || place >= size) {
                return false;
            }
            place++;
            return true;
        }

        /** The number that is next, of so many digits at most and in its bounds; else NONE, and it is not read. */
        private int number(int digits, int greatest) {
            int from = starts[place];
            int to = ends[place];
            if (tokens[place] != Token.NUMBER || to - from > digits || place >= size) {
                return NONE;
            }
            int value = 0;
            for (int i = from; i < to; i++) {
                value = 10 * value + bytes[i] - '0';
            }
            if (value > greatest) {
                return NONE;
            }
            place++;
            return value;
        }
    }

    /** Reads lines parted by semicolons; where it stops, the text stands at what is wrong. */
    private abstract static class LineReader {
        final Text text;

        LineReader(Text text) {
            this.text = text;
        }

        abstract boolean readLine();

        final boolean readLines(int most) {
            if (text.token() == Token.END) {
                return true;
            }
            for (int line = 0; line < most; line++) {
                if (!readLine()) {
                    return false;
                }
                if (text.token() == Token.END) {
                    return true;
                }
                if (!text.take(Token.SEMICOLON)) {
                    return false;
                }
            }
            return false;
        }
    }

    /** Reads a text of the road into a draft of the world. */
    private static final class RoadReader extends LineReader {
        private static final int DIGITS = 3;
        private static final int COIN_DIGITS = 4;
        private static final int HIGHEST = 99;

        private final World world;

        private RoadReader(Text text, World world) {
            super(text);
            this.world = world;
        }

        boolean readLine() {
            switch (text.token()) {
                case GATE: return readGate();
                case WALKER: return readWalker();
                case PRICE: return readPrice();
                case WEAR: return readWear();
                case CHANGE: return readChange();
                case STILL: return readStill();
                case LIAR: return readLiar();
                default: return false;
            }
        }

        private int readOneGate() {
            return text.number(DIGITS, world.gates - 1);
        }

        private int readOneWalker() {
            return text.number(DIGITS, world.walkers - 1);
        }

        /** One gate or more, as bits, or NONE. */
        private int readSomeGates() {
            int bits = 0;
            for (int i = 0; i < Tape.MOST; i++) {
                int gate = readOneGate();
                if (gate < 0) {
                    return NONE;
                }
                bits |= 1 << gate;
                if (text.token() != Token.NUMBER) {
                    return bits;
                }
            }
            return NONE;
        }

        private boolean readGate() {
            if (world.gates >= MOST_GATES) {
                return false;
            }
            text.advance();
            int toll = text.number(DIGITS, HIGHEST);
            if (toll < 0) {
                return false;
            }
            int kind = kindOf(text.token());
            int other = NONE;
            if (kind != World.PLAIN) {
                text.advance();
            }
            if (kind == World.DOUBLE) {
                other = readOneGate();
            }
            if (kind == World.CLOSED) {
                other = text.number(DIGITS, MOST_WALKERS - 1);
            }
            if (other < 0 && (kind == World.DOUBLE || kind == World.CLOSED)) {
                return false;
            }
            world.addGate(kind, toll, other);
            return true;
        }

        private static int kindOf(Token token) {
            switch (token) {
                case DOUBLE: return World.DOUBLE;
                case BLIND: return World.BLIND;
                case SINGING: return World.SINGING;
                case CLOSED: return World.CLOSED;
                case FALSE: return World.FALSE;
                default: return World.PLAIN;
            }
        }

        private boolean readWalker() {
            if (world.walkers >= MOST_WALKERS) {
                return false;
            }
            text.advance();
            int coins = text.number(COIN_DIGITS, MOST_COINS);
            if (coins < 0) {
                return false;
            }
            int ear = text.number(DIGITS, HIGHEST);
            if (ear < 0) {
                return false;
            }
            int known = text.take(Token.KNOWS) ? readSomeGates() : 0;
            if (known < 0) {
                return false;
            }
            world.addWalker(coins, ear, known);
            return true;
        }

        private boolean readPrice() {
            text.advance();
            int walker = readOneWalker();
            if (walker < 0) {
                return false;
            }
            int gate = readOneGate();
            if (gate < 0) {
                return false;
            }
            int price = text.number(DIGITS, HIGHEST);
            if (price < 0) {
                return false;
            }
            world.price[walker][gate] = price;
            return true;
        }

        private boolean readWear() {
            text.advance();
            int wear = text.number(DIGITS, HIGHEST);
            if (wear < 0) {
                return false;
            }
            world.wear = wear;
            return true;
        }

        private boolean readChange() {
            text.advance();
            int bits = readSomeGates();
            if (bits < 0) {
                return false;
            }
            world.change = bits;
            return true;
        }

        private boolean readStill() {
            text.advance();
            world.change = 0;
            return true;
        }

        private boolean readLiar() {
            text.advance();
            int walker = readOneWalker();
            if (walker < 0) {
                return false;
            }
            world.liars |= 1 << walker;
            return true;
        }
    }

    /** Reads a text of the law into steps for a stack: what a sign joins comes ahead of the sign. */
    private static final class LawReader extends LineReader {
        private static final int DIGITS = 3;
        private static final int HIGHEST = 999;
        private static final int DEEPEST = 6;

        // No token makes more than two steps.
        private final Token[] steps = new Token[2 * Tape.MOST];
        private final int[] numbers = new int[2 * Tape.MOST];
        private int size = 0;
        private int lines = 0;

        private LawReader(Text text) {
            super(text);
        }

        private void clear() {
            size = 0;
            lines = 0;
        }

        private Law written() {
            return new Law(lines, steps, numbers, size);
        }

        private void write(Token step, int number) {
            if (size < steps.length) {
                steps[size] = step;
                numbers[size] = number;
                size++;
            }
        }

        boolean readLine() {
            Token first = text.token();
            if (first != Token.HARD && first != Token.NEVER) {
                return false;
            }
            text.advance();
            int number = first == Token.HARD ? text.number(DIGITS, HIGHEST) : 0;
            if (number < 0) {
                return false;
            }
            if (!text.take(Token.IF)) {
                write(Token.ALWAYS, 0);
            } else if (!readCondition(0)) {
                return false;
            }
            write(first, number);
            lines++;
            return true;
        }

        /** And binds more closely than or: an or is written when the ands behind it are. */
        private boolean readCondition(int depth) {
            boolean and = false;
            boolean or = false;
            for (int i = 0; i < Tape.MOST; i++) {
                if (!readAtom(depth)) {
                    return false;
                }
                if (and) {
                    write(Token.AND, 0);
                }
                and = text.take(Token.AND);
                if (!and && or) {
                    write(Token.OR, 0);
                }
                if (!and) {
                    or = text.take(Token.OR);
                }
                if (!and && !or) {
                    return true;
                }
            }
            return false;
        }

        private boolean readAtom(int depth) {
            Token first = text.token();
            if (first == Token.NOT || first == Token.OPEN) {
                return depth < DEEPEST && readDeeper(first, depth + 1);
            }
            if (first == Token.MONDAY) {
                write(first, 0);
                return text.take(first);
            }
            if (!readSum()) {
                return false;
            }
            Token sign = text.token();
            if (sign != Token.LESS && sign != Token.MORE) {
                return false;
            }
            text.advance();
            if (!readSum()) {
                return false;
            }
            write(sign, 0);
            return true;
        }

        private boolean readDeeper(Token first, int depth) {
            text.advance();
            if (first == Token.OPEN) {
                return readCondition(depth) && text.take(Token.CLOSE);
            }
            if (!readAtom(depth)) {
                return false;
            }
            write(first, 0);
            return true;
        }

        private boolean readSum() {
            boolean joins = false;
            for (int i = 0; i < Tape.MOST; i++) {
                Token part = text.token();
                int number = 0;
                if (part == Token.NUMBER) {
                    number = text.number(DIGITS, HIGHEST);
                } else if (Law.isFact(part)) {
                    text.advance();
                } else {
                    return false;
                }
                if (number < 0) {
                    return false;
                }
                write(part, number);
                if (joins) {
                    write(Token.PLUS, 0);
                }
                if (!text.take(Token.PLUS)) {
                    return true;
                }
                joins = true;
            }
            return false;
        }
    }

    /** A law that was read: its steps never change, so that several worlds may hold it. */
    private static final class Law {
        // Six deep, each with what waits for its or, its and, its comparison and its sum.
        private static final int MOST_WAITING = 64;

        private final int lines;
        private final Token[] steps;
        private final int[] numbers;
        private final int[] waiting = new int[MOST_WAITING];
        private int top = 0;

        private Law(int lines, Token[] steps, int[] numbers, int size) {
            int kept = Math.max(0, Math.min(size, Math.min(steps.length, numbers.length)));
            this.lines = lines;
            this.steps = new Token[kept];
            this.numbers = new int[kept];
            for (int i = 0; i < kept; i++) {
                this.steps[i] = steps[i];
                this.numbers[i] = numbers[i];
            }
        }

        private static boolean isFact(Token token) {
            switch (token) {
                case GATE:
                case KIND:
                case TOLL:
                case DAY:
                case COINS:
                case KNOWN:
                case EAR:
                    return true;
                default:
                    return false;
            }
        }

        /** The sum of all hard lines that hold, or NONE if some never line holds. */
        private int burden(World world, int walker, int gate) {
            int sum = 0;
            boolean never = false;
            top = 0;
            for (int i = 0; i < steps.length; i++) {
                switch (steps[i]) {
                    case HARD:
                        sum += pop() == 1 ? numbers[i] : 0;
                        break;
                    case NEVER:
                        never = pop() == 1 || never;
                        break;
                    case NUMBER:
                        push(numbers[i]);
                        break;
                    case ALWAYS:
                        push(1);
                        break;
                    case NOT:
                        push(1 - pop());
                        break;
                    case PLUS:
                    case LESS:
                    case MORE:
                    case AND:
                    case OR:
                        int right = pop();
                        push(joined(steps[i], pop(), right));
                        break;
                    default:
                        push(world.fact(steps[i], walker, gate));
                        break;
                }
            }
            return never ? NONE : sum;
        }

        private static int joined(Token sign, int left, int right) {
            switch (sign) {
                case PLUS: return left + right;
                case LESS: return left < right ? 1 : 0;
                case MORE: return left > right ? 1 : 0;
                case AND: return left & right;
                default: return left | right;
            }
        }

        private void push(int value) {
            if (top < waiting.length) {
                waiting[top] = value;
                top++;
            }
        }

        private int pop() {
            if (top == 0) {
                return 0;
            }
            top--;
            return waiting[top];
        }
    }

    /** All that can be undone: the gates, the walkers, the law, the day and the chest. */
    private static final class World {
        private static final int PLAIN = 0;
        private static final int DOUBLE = 1;
        private static final int BLIND = 2;
        private static final int SINGING = 3;
        private static final int CLOSED = 4;
        private static final int FALSE = 5;
        private static final int WEEK = 7;

        private int gates = 0;
        private final int[] kind = new int[MOST_GATES];
        private final int[] toll = new int[MOST_GATES];
        private final int[] other = new int[MOST_GATES];
        private int walkers = 0;
        private final int[] at = new int[MOST_WALKERS];
        private final int[] coins = new int[MOST_WALKERS];
        private final int[] ear = new int[MOST_WALKERS];
        private final int[] has = new int[MOST_WALKERS];
        private final int[] sure = new int[MOST_WALKERS];
        private final int[][] since = new int[MOST_WALKERS][MOST_GATES];
        private final int[][] price = new int[MOST_WALKERS][MOST_GATES];
        private int liars = 0;
        private int texts = 0;
        private int wear = 0;
        private int change = 0;
        private int day = 0;
        private int chest = 0;
        private int seed = 1;
        private Law law = new Law(NONE, new Token[0], new int[0], 0);

        private World() {
            for (int w = 0; w < MOST_WALKERS; w++) {
                for (int g = 0; g < MOST_GATES; g++) {
                    price[w][g] = NONE;
                }
            }
        }

        private void copy(World from) {
            gates = from.gates;
            walkers = from.walkers;
            liars = from.liars;
            texts = from.texts;
            wear = from.wear;
            change = from.change;
            day = from.day;
            chest = from.chest;
            seed = from.seed;
            law = from.law;
            System.arraycopy(from.kind, 0, kind, 0, MOST_GATES);
            System.arraycopy(from.toll, 0, toll, 0, MOST_GATES);
            System.arraycopy(from.other, 0, other, 0, MOST_GATES);
            System.arraycopy(from.at, 0, at, 0, MOST_WALKERS);
            System.arraycopy(from.coins, 0, coins, 0, MOST_WALKERS);
            System.arraycopy(from.ear, 0, ear, 0, MOST_WALKERS);
            System.arraycopy(from.has, 0, has, 0, MOST_WALKERS);
            System.arraycopy(from.sure, 0, sure, 0, MOST_WALKERS);
            for (int w = 0; w < MOST_WALKERS; w++) {
                System.arraycopy(from.since[w], 0, since[w], 0, MOST_GATES);
                System.arraycopy(from.price[w], 0, price[w], 0, MOST_GATES);
            }
        }

        private void addGate(int newKind, int newToll, int newOther) {
            if (gates < MOST_GATES) {
                kind[gates] = newKind;
                toll[gates] = newToll;
                other[gates] = newOther;
                gates++;
            }
        }

        /** Places of walkers who are not there yet are as at first, also behind a copy. */
        private void addWalker(int newCoins, int newEar, int known) {
            if (walkers < MOST_WALKERS) {
                coins[walkers] = newCoins;
                ear[walkers] = newEar;
                learn(walkers, known, known);
                walkers++;
            }
        }

        private int allWalkers() {
            return (1 << walkers) - 1;
        }

        private boolean knows(int walker, int gate) {
            return (has[walker] >> gate & 1) == 1;
        }

        private boolean isBehindAll(int walker) {
            return at[walker] >= gates;
        }

        private int standingAt(int gate) {
            int standing = 0;
            for (int w = 0; w < walkers; w++) {
                standing += at[w] == gate ? 1 : 0;
            }
            return standing;
        }

        private int having(int gate) {
            int having = 0;
            for (int w = 0; w < walkers; w++) {
                having += has[w] >> gate & 1;
            }
            return having;
        }

        private int coinsOfAll() {
            int sum = 0;
            for (int w = 0; w < walkers; w++) {
                sum += coins[w];
            }
            return sum;
        }

        /** How many answers are had: one that two walkers have counts twice, as at an inn. */
        private int answersOfAll() {
            int sum = 0;
            for (int w = 0; w < walkers; w++) {
                sum += Integer.bitCount(has[w]);
            }
            return sum;
        }

        /** What some walkers have together: all that one of them has. */
        private int together(int members) {
            int bits = 0;
            for (int w = 0; w < walkers; w++) {
                bits |= (members >> w & 1) == 1 ? has[w] : 0;
            }
            return bits;
        }

        /** The answers that a gate asks for, as bits. */
        private int asked(int gate) {
            if (kind[gate] == DOUBLE) {
                return 1 << gate | 1 << other[gate];
            }
            if (kind[gate] == BLIND && gate + 1 < gates) {
                return 1 << gate + 1;
            }
            return 1 << gate;
        }

        private boolean isClosedTo(int walker, int gate) {
            return kind[gate] == CLOSED && other[gate] == walker;
        }

        private boolean opensTo(int walker, int gate, boolean surely) {
            int known = surely && kind[gate] != FALSE ? sure[walker] : has[walker];
            return !isClosedTo(walker, gate) && (asked(gate) & ~known) == 0;
        }

        private int fact(Token token, int walker, int gate) {
            switch (token) {
                case GATE: return gate;
                case KIND: return kind[gate];
                case TOLL: return toll[gate];
                case DAY: return day % WEEK;
                case COINS: return coins[walker];
                case KNOWN: return Integer.bitCount(has[walker]);
                case EAR: return ear[walker];
                case MONDAY: return day % WEEK == 0 ? 1 : 0;
                default: return 0;
            }
        }

        private int chanceOf(int walker, int gate) {
            int burden = law.burden(this, walker, gate);
            return burden == NONE ? 0 : Math.max(0, ear[walker] - burden);
        }

        private void learn(int walker, int bits, int truths) {
            has[walker] |= bits;
            sure[walker] = sure[walker] & ~bits | bits & truths;
            for (int g = 0; g < MOST_GATES; g++) {
                if ((bits >> g & 1) == 1) {
                    since[walker][g] = day;
                }
            }
        }

        private void unlearn(int walker, int bits) {
            has[walker] &= ~bits;
            sure[walker] &= ~bits;
        }

        private boolean canPass(int walker) {
            return !isBehindAll(walker) && coins[walker] >= toll[at[walker]] && opensTo(walker, at[walker], false);
        }

        /** A pass that can be: whether the gate opened; else one is caught. */
        private boolean passGate(int walker) {
            int gate = at[walker];
            boolean opened = opensTo(walker, gate, true);
            coins[walker] -= toll[gate];
            chest += toll[gate];
            if (!opened) {
                at[walker] = 0;
                unlearn(walker, asked(gate) & ~sure[walker]);
                return false;
            }
            at[walker]++;
            if (kind[gate] == SINGING) {
                sing(gate);
            }
            return true;
        }

        private void sing(int gate) {
            for (int w = 0; w < walkers; w++) {
                if (at[w] == gate && !knows(w, gate)) {
                    learn(w, 1 << gate, 1 << gate);
                }
            }
        }

        private int draw() {
            seed = 1103515245 * seed + 12345;
            return seed >>> 16 & 32767;
        }

        /** A guess where one is: whether it was right. */
        private boolean guessAnswer(int walker, int chance) {
            int gate = at[walker];
            if (draw() % 100 < chance) {
                learn(walker, 1 << gate, 1 << gate);
                return true;
            }
            if (coins[walker] > 0) {
                coins[walker]--;
                chest++;
            }
            return false;
        }

        private boolean sells(int walker, int gate) {
            return knows(walker, gate) && price[walker][gate] != NONE;
        }

        private int sellersAt(int gate) {
            int sellers = 0;
            for (int w = 0; w < walkers; w++) {
                sellers += sells(w, gate) ? 1 : 0;
            }
            return sellers;
        }

        /** The walker who has an answer and sells it for the least, or NONE. */
        private int cheapestSeller(int gate) {
            int best = NONE;
            for (int w = 0; w < walkers; w++) {
                if (sells(w, gate) && (best == NONE || price[w][gate] < price[best][gate])) {
                    best = w;
                }
            }
            return best;
        }

        private boolean canSell(int seller, int buyer, int gate) {
            int asks = price[seller][gate];
            return sells(seller, gate) && !knows(buyer, gate)
                    && coins[buyer] >= asks && coins[seller] + asks <= MOST_COINS;
        }

        private void sellAnswer(int seller, int buyer, int gate) {
            int asks = price[seller][gate];
            boolean lies = (liars >> seller & 1) == 1;
            coins[seller] += asks;
            coins[buyer] -= asks;
            learn(buyer, 1 << gate, lies ? 0 : sure[seller]);
        }

        /** An inn: how many answers came to walkers. */
        private int tellAll(int members) {
            int told = together(members);
            int truths = 0;
            for (int w = 0; w < walkers; w++) {
                truths |= (members >> w & 1) == 1 ? sure[w] : 0;
            }
            int came = 0;
            for (int w = 0; w < walkers; w++) {
                if ((members >> w & 1) == 1) {
                    int fresh = told & ~has[w];
                    came += Integer.bitCount(fresh);
                    learn(w, fresh, truths);
                }
            }
            return came;
        }

        private void dayMore() {
            day++;
            for (int w = 0; w < walkers; w++) {
                if (day % WEEK == 0) {
                    unlearn(w, change);
                }
                wearOff(w);
            }
        }

        private void wearOff(int walker) {
            for (int g = 0; wear > 0 && g < gates; g++) {
                if (day - since[walker][g] > wear) {
                    unlearn(walker, 1 << g);
                }
            }
        }

        /** A day by draws: how many passes came there that were not caught. */
        private int drawnDay() {
            int passes = 0;
            for (int w = 0; w < walkers; w++) {
                passes += !isBehindAll(w) && drawnAct(w) ? 1 : 0;
            }
            dayMore();
            return passes;
        }

        /** What one does on a day by draws: whether one passed, and was not caught. */
        private boolean drawnAct(int walker) {
            if (canPass(walker)) {
                return passGate(walker);
            }
            int gate = at[walker];
            int chance = chanceOf(walker, gate);
            if (chance > 0) {
                guessAnswer(walker, chance);
                return false;
            }
            int seller = cheapestSeller(gate);
            if (seller != NONE && canSell(seller, walker, gate)) {
                sellAnswer(seller, walker, gate);
            }
            return false;
        }
    }

    /** What is asked of a world without changing it. */
    private static final class Plans {
        private static final int MOST_GUESSES = 99;
        private static final long FULL_DOUBT = 1000000000L;
        private static final long MILLIONTH = 1000L;

        private Plans() {
        }

        /**
         * The answers that some walkers must buy to come to a gate, or the coins for these and for the tolls; NONE.
         * What a gate asks for leaves no choice, so the answers that are needed are the cheapest set.
         */
        private static int purchases(World world, int members, int to, boolean set) {
            int needed = 0;
            int cost = 0;
            for (int w = 0; w < world.walkers; w++) {
                if ((members >> w & 1) == 1) {
                    for (int g = world.at[w]; g < to && g < world.gates; g++) {
                        if (world.isClosedTo(w, g)) {
                            return NONE;
                        }
                        needed |= world.asked(g);
                        cost += world.toll[g];
                    }
                }
            }
            int bought = needed & ~world.together(members);
            for (int g = 0; g < world.gates; g++) {
                if ((bought >> g & 1) == 1) {
                    int seller = world.cheapestSeller(g);
                    if (seller == NONE) {
                        return NONE;
                    }
                    cost += world.price[seller][g];
                }
            }
            return set ? bought : cost;
        }

        private static int guessesNeeded(int chance, int millionths) {
            long doubt = FULL_DOUBT;
            for (int n = 0; n <= MOST_GUESSES; n++) {
                if (doubt <= MILLIONTH * millionths) {
                    return n;
                }
                doubt = doubt * (100 - chance) / 100;
            }
            return NONE;
        }

        private static int fewestWhoPass(World world, int gates) {
            int needed = 0;
            for (int g = 0; g < world.gates; g++) {
                needed |= (gates >> g & 1) == 1 ? world.asked(g) : 0;
            }
            int best = NONE;
            for (int set = 0; set <= world.allWalkers(); set++) {
                boolean fewer = best == NONE || Integer.bitCount(set) < Integer.bitCount(best);
                if (fewer && (needed & ~world.together(set)) == 0) {
                    best = set;
                }
            }
            return best;
        }

        private static int fewestKeptAway(World world, int gate) {
            int all = world.allWalkers();
            int best = all;
            for (int set = 0; set <= all; set++) {
                boolean fewer = Integer.bitCount(set) < Integer.bitCount(best);
                if (fewer && (world.asked(gate) & ~world.together(all & ~set)) != 0) {
                    best = set;
                }
            }
            return best;
        }

        private static int gatesOfLie(int[] sayings, int gates, int most) {
            int bits = 0;
            for (int lie = 0; lie < gates; lie++) {
                int wrong = 0;
                for (int g = 0; g < gates && g < sayings.length; g++) {
                    int notSo = g == lie ? 'T' : 'F';
                    wrong += sayings[g] == notSo ? 1 : 0;
                }
                bits |= wrong <= most ? 1 << lie : 0;
            }
            return bits;
        }

        /** Each gate spoils by itself: those that spoil most, of several the first, are the least as bits. */
        private static int worstChange(World world, int size) {
            int set = 0;
            for (int i = 0; i < size && i < MOST_GATES; i++) {
                int best = NONE;
                int most = NONE;
                for (int g = 0; g < world.gates; g++) {
                    int sellers = world.sellersAt(g);
                    if ((set >> g & 1) == 0 && sellers > most) {
                        most = sellers;
                        best = g;
                    }
                }
                set |= best == NONE ? 0 : 1 << best;
            }
            return set;
        }
    }

    /** Rows of letters, one of which is true, and the questions that part them. */
    private static final class Chains {
        private static final int MOST = 6;
        // More than any number of questions: there are not so many gates.
        private static final int HOPELESS = 100;

        private final int[][] letters = new int[MOST][MOST_GATES];
        private final int[] lengths = new int[MOST];
        private final int[] fewest = new int[1 << MOST];
        private int count = 0;

        private void copy(Chains from) {
            count = from.count;
            System.arraycopy(from.lengths, 0, lengths, 0, MOST);
            for (int c = 0; c < MOST; c++) {
                System.arraycopy(from.letters[c], 0, letters[c], 0, MOST_GATES);
            }
        }

        private int add(int[] bytes, int length) {
            if (count >= MOST) {
                return NONE;
            }
            for (int g = 0; g < length && g < MOST_GATES && g < bytes.length; g++) {
                letters[count][g] = bytes[g];
            }
            lengths[count] = length;
            count++;
            return count - 1;
        }

        private int fewestQuestions() {
            weighAllSets();
            int needed = fewest[(1 << count) - 1];
            return needed >= HOPELESS ? NONE : needed;
        }

        private int firstGate() {
            weighAllSets();
            int all = (1 << count) - 1;
            if (fewest[all] == 0 || fewest[all] >= HOPELESS) {
                return NONE;
            }
            int gates = gatesOfAll();
            for (int g = 0; g < gates; g++) {
                if (questionsFrom(all, g) == fewest[all]) {
                    return g;
                }
            }
            return NONE;
        }

        /** How many gates there are for which all chains have a letter. */
        private int gatesOfAll() {
            int gates = MOST_GATES;
            for (int c = 0; c < count; c++) {
                gates = Math.min(gates, lengths[c]);
            }
            return gates;
        }

        /** Parts of a set are smaller as bits than the set: they are weighed ahead of it. */
        private void weighAllSets() {
            int gates = gatesOfAll();
            fewest[0] = 0;
            for (int set = 1; set < 1 << count; set++) {
                int best = Integer.bitCount(set) == 1 ? 0 : HOPELESS;
                for (int g = 0; g < gates && best > 1; g++) {
                    best = Math.min(best, questionsFrom(set, g));
                }
                fewest[set] = best;
            }
        }

        /** The fewest questions that part a set, if the first is asked at this gate. */
        private int questionsFrom(int set, int gate) {
            int most = 0;
            for (int c = 0; c < count; c++) {
                if ((set >> c & 1) == 1) {
                    int alike = alikeAt(set, gate, letters[c][gate]);
                    if (alike == set) {
                        return HOPELESS;
                    }
                    most = Math.max(most, fewest[alike]);
                }
            }
            return Math.min(HOPELESS, most + 1);
        }

        private int alikeAt(int set, int gate, int letter) {
            int alike = 0;
            for (int c = 0; c < count; c++) {
                alike |= (set >> c & 1) == 1 && letters[c][gate] == letter ? 1 << c : 0;
            }
            return alike;
        }
    }

    /** The worlds ahead of the latest acts. */
    private static final class History {
        private static final int MOST = 12;

        private final World[] worlds = new World[MOST];
        private int oldest = 0;
        private int count = 0;

        private History() {
            for (int i = 0; i < MOST; i++) {
                worlds[i] = new World();
            }
        }

        private void clear() {
            count = 0;
        }

        private void remember(World world) {
            worlds[(oldest + count) % MOST].copy(world);
            if (count < MOST) {
                count++;
            } else {
                oldest = (oldest + 1) % MOST;
            }
        }

        private boolean undoLatest(World world) {
            if (count == 0) {
                return false;
            }
            count--;
            world.copy(worlds[(oldest + count) % MOST]);
            return true;
        }
    }
}
