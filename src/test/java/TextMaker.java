import java.util.Random;

/** Makes texts of laws by chance: most of them sound, some with a fault somewhere. */
public final class TextMaker {
    private static final String[] BONE_NAMES = {"weight", "lies", "beside", "x", "y", "hour"};
    private static final String[] FAR_NAMES = {"strength", "spare", "weight", "lies", "beside", "x", "y", "hour"};
    private static final String[] FOUND_NAMES = {"many", "weight", "lies", "beside", "x", "y", "hour"};
    private static final String[] CROP_NAMES = {"age", "x", "y", "area", "water"};
    private static final String[] STRAY = {"weight", "spare", "many", "age", "area", "water", "hold", "far", "crop",
        "found", "bone", "stake", "at", "or", "and", "not", "min", "max", "foo", "Weight", "(", ")", ",", ";", "<",
        ">", "<=", ">=", "=", "#", "+", "-", "*", "/", "10000", "99999999999999999999", "0", "9999", "0007", "!",
        "\u0000", "\u00e9", "\t", "\n", " ", "  "};
    private final Random random;

    public TextMaker(Random random) {
        this.random = random;
    }

    /** A text of 300 bytes at most. */
    public String make() {
        StringBuilder s = new StringBuilder();
        int clauses = random.nextInt(12) == 0 ? 19 + random.nextInt(4) : random.nextInt(9);
        boolean[] once = new boolean[3];
        if (clauses < 9 && random.nextInt(8) == 0) {
            s.append(lawsBeyond());
            once[0] = true;
            once[1] = true;
        }
        for (int i = 0; i < clauses; i++) {
            String clause = clause(once, clauses > 15);
            if (s.length() + clause.length() <= 300) {
                s.append(clause);
            }
        }
        if (random.nextInt(3) == 0) {
            spoil(s);
        }
        s.setLength(Math.min(300, s.length()));
        return s.toString();
    }

    private void spoil(StringBuilder s) {
        int at = random.nextInt(s.length() + 1);
        switch (random.nextInt(4)) {
            case 0 -> s.insert(at, STRAY[random.nextInt(STRAY.length)]);
            case 1 -> s.insert(at, " " + STRAY[random.nextInt(STRAY.length)] + " ");
            case 2 -> s.setLength(at);
            default -> s.delete(at, Math.min(s.length(), at + 1 + random.nextInt(3)));
        }
    }

    private String gap() {
        int r = random.nextInt(10);
        return r == 0 ? "\n" : r < 3 ? " " : "";
    }

    private String clause(boolean[] once, boolean brief) {
        int kind = random.nextInt(10);
        int depth = brief ? 0 : random.nextInt(8) == 0 ? 9 : random.nextInt(4);
        if (kind < 3 && !brief && (!once[kind] || random.nextInt(20) == 0)) {
            once[kind] = true;
            String[] names = kind == 0 ? BONE_NAMES : kind == 1 ? FAR_NAMES : CROP_NAMES;
            return new String[] {"hold ", "far ", "crop "}[kind] + sum(names, depth) + gap() + ";";
        }
        if (kind < 5) {
            return "found " + either(depth) + ";" + gap();
        }
        if (kind < 9) {
            return "bone " + number(1, 99) + " at " + number(0, 7) + gap() + "," + gap() + number(0, 5) + ";";
        }
        return "stake " + number(0, 5) + " at " + number(0, 7) + "," + number(0, 5) + gap() + ";";
    }

    /** A hold that leaves more spare than a step can have, and a far by what is beyond. */
    private String lawsBeyond() {
        String[] names = {"spare", "spare", "strength"};
        return "hold -1000*1000;far " + sum(names, random.nextInt(3)) + "-1000*1000+" + random.nextInt(4) + ";";
    }

    private int number(int least, int most) {
        return random.nextInt(60) == 0 ? most + 1 : least + random.nextInt(most - least + 1);
    }

    private String either(int depth) {
        StringBuilder s = new StringBuilder(ask(depth));
        for (int i = random.nextInt(4); i > 1; i--) {
            s.append(random.nextBoolean() ? " or " : " and ").append(ask(depth / 2));
        }
        return s.toString();
    }

    private String ask(int depth) {
        String nots = random.nextInt(4) == 0 ? "not ".repeat(1 + random.nextInt(random.nextInt(5) == 0 ? 10 : 3)) : "";
        String[] asks = {"<", "<=", ">", ">=", "=", "#"};
        return nots + sum(FOUND_NAMES, depth) + gap() + asks[random.nextInt(6)] + gap() + sum(FOUND_NAMES, depth / 2);
    }

    private String sum(String[] names, int depth) {
        StringBuilder s = new StringBuilder(one(names, depth));
        for (int i = random.nextInt(3); i > 0; i--) {
            s.append(gap()).append("+-*/".charAt(random.nextInt(4))).append(gap()).append(one(names, depth / 2));
        }
        return s.toString();
    }

    private String one(String[] names, int depth) {
        int r = random.nextInt(depth > 0 ? 12 : 6);
        if (r < 3) {
            return names[random.nextInt(names.length)];
        }
        if (r < 6) {
            int size = random.nextInt(4);
            return "" + (size == 0 ? random.nextInt(10000) : random.nextInt(size == 1 ? 100 : 12));
        }
        if (r < 8) {
            return "(" + sum(names, depth - 1) + ")";
        }
        if (r < 10) {
            return "-" + gap() + one(names, depth - 1);
        }
        return (r == 10 ? "min" : "max") + gap() + "(" + sum(names, depth - 1) + "," + sum(names, depth / 2) + ")";
    }
}
