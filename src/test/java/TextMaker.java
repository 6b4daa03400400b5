import java.util.Random;

/** Makes texts by chance: most of them are whole, some have a fault put in. */
final class TextMaker {
    private static final String[] BOTH = {"hour", "late", "stair"};
    private static final String[] TICKS = {"weight", "floor", "who", "trod", "way", "hour", "late", "stair"};
    private static final String[] PARTS = {
        "ticks", "hears", "lodger", "floor", "up", "down", "by", "hang", "unhang", "hour", "late", "stair", "weight",
        "who", "trod", "way", "near", "of", "cups", "if", "then", "else", "end", "or", "and", "not", "foo", "Ticks",
        "<=", ">=", "<", ">", "=", "#", "+", "-", "*", "/", "(", ")", ";", "0", "1", "12", "13", "9999", "10000",
        "00001", "99999999999999999999", "?", "\t", "\u00e9", "\u0000", " ", "\n"};
    private final Random random;

    TextMaker(Random random) {
        this.random = random;
    }

    /** At most 300 signs. */
    String text() {
        StringBuilder s = new StringBuilder();
        int clauses = random.nextInt(20) == 0 ? 30 : random.nextInt(10);
        boolean ticks = random.nextBoolean();
        boolean hears = random.nextBoolean();
        int depth = random.nextInt(4) == 0 ? 8 : random.nextInt(4);
        if (hears) {
            s.append("hears ").append(sum(depth, BOTH)).append(blank()).append(';').append(blank());
        }
        for (int i = 0; i < clauses; i++) {
            if (ticks && random.nextInt(clauses) == 0) {
                s.append("ticks ").append(sum(depth, TICKS)).append(';');
                ticks = random.nextInt(12) == 0;
            }
            s.append(clause()).append(blank());
        }
        if (ticks) {
            s.append("ticks ").append(sum(depth, TICKS)).append(';');
        }
        String made = random.nextInt(4) == 0 ? hurt(s.toString()) : s.toString();
        return made.length() <= 300 ? made : random.nextInt(3) == 0 ? made.substring(0, 300) : text();
    }

    private String hurt(String s) {
        int at = random.nextInt(s.length() + 1);
        switch (random.nextInt(4)) {
            case 0:
                return s.substring(0, at) + s.substring(Math.min(s.length(), at + 1 + random.nextInt(4)));
            case 1:
                return s.substring(0, at) + " " + pick(PARTS) + " " + s.substring(at);
            case 2:
                return s.substring(0, at) + pick(PARTS) + s.substring(Math.min(s.length(), at + 1 + random.nextInt(5)));
            default:
                return s.substring(0, at);
        }
    }

    private String clause() {
        switch (random.nextInt(8)) {
            case 0:
                return "lodger " + number(1, 9) + " floor " + number(1, 12) + ";";
            case 1:
            case 2:
                return "up " + number(1, 3) + " by " + number(0, 1) + ";";
            case 3:
                return "down " + number(1, 3) + " by " + number(0, 5) + ";";
            case 4:
                return "hang " + number(1, 12) + ";";
            case 5:
                return "unhang " + number(1, 12) + ";";
            default:
                return "hour " + number(1, 60) + blank() + ";";
        }
    }

    private String number(int low, int high) {
        if (random.nextInt(60) == 0) {
            return "" + (random.nextBoolean() ? Math.max(0, low - 1) : high + 1);
        }
        return (random.nextInt(20) == 0 ? "0" : "") + (low + random.nextInt(high - low + 1));
    }

    private String blank() {
        return random.nextInt(6) == 0 ? " " : random.nextInt(9) == 0 ? "\n" : "";
    }

    private String pick(String[] row) {
        return row[random.nextInt(row.length)];
    }

    private String sum(int depth, String[] names) {
        StringBuilder s = new StringBuilder(product(depth, names));
        while (random.nextInt(5) < 2) {
            s.append(pick(new String[] {"+", "-", " + "})).append(product(depth, names));
        }
        return s.toString();
    }

    private String product(int depth, String[] names) {
        StringBuilder s = new StringBuilder(one(depth, names));
        while (random.nextInt(5) < 2) {
            s.append(pick(new String[] {"*", "/", "/ "})).append(one(depth, names));
        }
        return s.toString();
    }

    private String one(int depth, String[] names) {
        if (depth <= 0 || random.nextInt(3) == 0) {
            String name = random.nextInt(150) == 0 ? pick(TICKS) : pick(names);
            return random.nextBoolean() ? name : "" + (random.nextInt(6) == 0 ? random.nextInt(10100) : random.nextInt(15));
        }
        int deeper = depth - (random.nextInt(30) == 0 ? 0 : 1);
        switch (random.nextInt(5)) {
            case 0:
                return "(" + sum(deeper, names) + ")";
            case 1:
                return "-" + one(deeper, names);
            case 2:
                return "near " + one(deeper, names) + " of " + one(deeper, names);
            case 3:
                return "cups " + one(deeper, names);
            default:
                return "if " + either(deeper, names) + " then " + sum(deeper, names) + " else " + sum(deeper, names) + " end";
        }
    }

    private String either(int depth, String[] names) {
        StringBuilder s = new StringBuilder(ask(depth, names));
        while (random.nextInt(3) == 0) {
            s.append(random.nextBoolean() ? " or " : " and ").append(ask(depth, names));
        }
        return s.toString();
    }

    private String ask(int depth, String[] names) {
        if (depth > 0 && random.nextInt(4) == 0) {
            return "not " + ask(depth - 1, names);
        }
        return sum(depth - 1, names) + pick(new String[] {"<", "<=", ">", ">=", "=", "#"}) + sum(depth - 1, names);
    }
}
