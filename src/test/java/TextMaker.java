import java.util.Random;

/** Texts by chance: mostly right ones, some with a byte spoiled. */
final class TextMaker {
    private final Random random;
    private int gates;
    private int walkers;

    TextMaker(Random random) {
        this.random = random;
    }

    private String pick(String... things) {
        return things[random.nextInt(things.length)];
    }

    private String blanks() {
        return " ".repeat(random.nextInt(6) == 0 ? random.nextInt(3) : 0);
    }

    private String number(int below) {
        if (random.nextInt(60) == 0) {
            return pick("100", "0001", "9999", "10000", "12", "8", "-1", "");
        }
        String digits = Integer.toString(below > 0 ? random.nextInt(below) : 0);
        return random.nextInt(20) == 0 && digits.length() < 3 ? "0" + digits : digits;
    }

    private String gateList() {
        StringBuilder list = new StringBuilder(number(gates));
        for (int n = random.nextInt(4); n > 0; n--) {
            list.append(' ').append(number(gates));
        }
        return list.toString();
    }

    /** A text of the road, after which there are about so many gates and walkers. */
    String road(int gatesNow, int walkersNow, boolean whole) {
        gates = gatesNow;
        walkers = walkersNow;
        StringBuilder text = new StringBuilder();
        int lines = whole ? 14 : 1 + random.nextInt(4);
        int walls = whole ? 2 + random.nextInt(6) : 0;
        for (int i = 0; i < lines; i++) {
            String line = roadLine(whole ? i < walls ? 0 : i < walls + 4 ? 20 : 40 + random.nextInt(60) : random.nextInt(100));
            if (text.length() + line.length() > 395) {
                break;
            }
            text.append(i > 0 ? ";" : "").append(blanks()).append(line).append(blanks());
        }
        return spoiled(text);
    }

    private String roadLine(int sort) {
        if (sort < 20) {
            String kind = pick("", "", " blind", " singing", " closed " + number(8), " false", " double " + number(gates));
            String line = "gate " + number(random.nextInt(3) == 0 ? 20 : 3) + (kind.startsWith(" double") && gates == 0 ? "" : kind);
            gates++;
            return line;
        }
        if (sort < 40) {
            String coins = random.nextInt(8) == 0 ? pick("9999", "0", "9990") : number(60);
            String knows = gates > 0 && random.nextInt(4) > 0 ? " knows " + gateList() : "";
            walkers++;
            return "walker " + coins + " " + number(random.nextBoolean() ? 100 : 1) + knows;
        }
        if (sort < 75) {
            return "price " + number(walkers) + " " + number(gates) + " " + number(random.nextInt(4) == 0 ? 100 : 4);
        }
        if (sort < 82) {
            return "wear " + number(random.nextBoolean() ? 30 : 5);
        }
        if (sort < 88) {
            return "change " + gateList();
        }
        return sort < 91 ? "still" : "liar " + number(walkers);
    }

    String law() {
        StringBuilder text = new StringBuilder();
        int lines = random.nextInt(12) == 0 ? random.nextInt(14) : random.nextInt(4);
        for (int i = 0; i < lines; i++) {
            String line = random.nextInt(4) == 0 ? "never" : "hard " + number(40);
            line += random.nextInt(6) == 0 ? "" : " if " + some(0);
            if (text.length() + line.length() > 395) {
                break;
            }
            text.append(i > 0 ? ";" : "").append(blanks()).append(line).append(blanks());
        }
        return spoiled(text);
    }

    private String some(int depth) {
        String text = atom(depth);
        for (int n = random.nextInt(3); n > 0; n--) {
            text += pick(" and ", " or ") + atom(depth);
        }
        return text;
    }

    private String atom(int depth) {
        int sort = random.nextInt(10);
        if (depth < 8 && sort < 2) {
            return "not " + atom(depth + 1);
        }
        if (depth < 8 && sort < 4) {
            return "(" + blanks() + some(depth + 1) + blanks() + ")";
        }
        return sort == 4 ? "monday" : sum() + pick("<", ">", " < ", " > ") + sum();
    }

    private String sum() {
        String text = part();
        for (int n = random.nextInt(3) - 1; n > 0; n--) {
            text += pick("+", " + ") + part();
        }
        return text;
    }

    private String part() {
        return pick(number(9), number(60), "gate", "kind", "toll", "day", "coins", "known", "ear");
    }

    private String spoiled(StringBuilder text) {
        if (text.length() == 0 || random.nextInt(4) > 0) {
            return text.toString();
        }
        int at = random.nextInt(text.length());
        switch (random.nextInt(5)) {
            case 0 -> text.deleteCharAt(at);
            case 1 -> text.setLength(at);
            case 2 -> text.setCharAt(at, pick(" ;()+<>ax09", "\u00e9\t\u0000").charAt(0));
            case 3 -> text.setCharAt(at, " ;()+<>az09A".charAt(random.nextInt(12)));
            default -> text.insert(at, pick(" ", "0", ";", "not ", "(", "gate", "9"));
        }
        return text.length() > 400 ? text.substring(0, 400) : text.toString();
    }

    String chain(int gatesNow) {
        StringBuilder row = new StringBuilder();
        int letters = random.nextInt(3) == 0 ? 3 : 2;
        for (int i = 0; i < gatesNow; i++) {
            row.append((char) ('a' + random.nextInt(letters)));
        }
        return random.nextInt(12) == 0 ? spoiled(row) + pick("", "a", "{", "`") : row.toString();
    }

    String sayings(int gatesNow) {
        StringBuilder row = new StringBuilder();
        for (int i = 0; i < gatesNow; i++) {
            row.append(pick("T", "T", "F", "?"));
        }
        return random.nextInt(12) == 0 ? spoiled(row) + pick("", "T", "t") : row.toString();
    }
}
