import java.util.Random;

/** Draws texts by the grammar, and spoils them. */
final class TextDraw {
    private static final String[] PIECES = {"melts", "breaks", "claims", "name", "family", "call", "lay", "take",
        "stand", "sink", "hour", "warm", "layer", "size", "who", "sounds", "cell", "net", "house", "in", "at", "of",
        "if", "then", "else", "end", "or", "and", "not", "digit", "ice", "<", "<=", ">", ">=", "=", "#", "+", "-", "*",
        "/", "(", ")", ";", "0", "1", "10", "9999", "10000", "0007", "Ice", "foo", "!", "\t", "61", "60", "\n"};

    private TextDraw() {
    }

    static String draw(Random r) {
        StringBuilder out = new StringBuilder();
        int clauses = r.nextInt(12) == 0 ? 24 + r.nextInt(3) : r.nextInt(9);
        boolean[] used = new boolean[3];
        for (int i = 0; i < clauses; i++) {
            clause(r, out, clauses > 20, used);
            if (r.nextInt(8) == 0) {
                out.append(r.nextBoolean() ? "\n" : "  ");
            }
        }
        return out.toString();
    }

    private static void clause(Random r, StringBuilder out, boolean brief, boolean[] used) {
        int kind = r.nextInt(brief ? 12 : 18);
        switch (kind) {
            case 0: case 1:
                out.append("name ").append(sounds(r)).append(" in ").append(r.nextInt(10));
                break;
            case 2: case 3:
                out.append("family ").append(1 + r.nextInt(9)).append(" at ").append(r.nextInt(10));
                break;
            case 4:
                out.append("call ").append(r.nextInt(6));
                break;
            case 5:
                out.append("lay ").append(r.nextInt(10));
                break;
            case 6:
                out.append("take ").append(r.nextInt(10));
                break;
            case 7:
                out.append("stand ").append(r.nextInt(5)).append(" at ").append(r.nextInt(10));
                break;
            case 8:
                out.append("sink ").append(r.nextInt(6));
                break;
            case 9: case 10: case 11:
                out.append("hour ").append(1 + r.nextInt(r.nextInt(4) == 0 ? 60 : 4));
                break;
            default:
                int law = kind % 3;
                if (used[law] && r.nextInt(10) != 0) {
                    out.append("hour 1");
                    break;
                }
                used[law] = true;
                out.append(new String[] {"melts ", "breaks ", "claims "}[law]);
                sum(r, out, law, r.nextInt(4) == 0 ? 8 : 3);
                break;
        }
        out.append(';');
    }

    private static String sounds(Random r) {
        StringBuilder s = new StringBuilder();
        for (int i = 1 + r.nextInt(4); i > 0; i--) {
            s.append(1 + r.nextInt(3));
        }
        return s.toString();
    }

    private static void sum(Random r, StringBuilder out, int law, int depth) {
        product(r, out, law, depth);
        while (r.nextInt(3) == 0) {
            out.append(r.nextBoolean() ? "+" : "-");
            product(r, out, law, depth);
        }
    }

    private static void product(Random r, StringBuilder out, int law, int depth) {
        one(r, out, law, depth);
        while (r.nextInt(4) == 0) {
            out.append(r.nextBoolean() ? "*" : "/");
            one(r, out, law, depth);
        }
    }

    private static void one(Random r, StringBuilder out, int law, int depth) {
        int kind = r.nextInt(depth > 0 ? 12 : 5);
        if (kind < 2) {
            out.append(r.nextInt(4) == 0 ? r.nextInt(10000) : r.nextInt(10));
        } else if (kind < 5) {
            String[] known = {"hour", "warm", "layer", "size", "who", "sounds", "cell", "net", "house"};
            int most = r.nextInt(30) == 0 ? 9 : law == 0 ? 6 : law == 1 ? 7 : 9;
            out.append(known[r.nextInt(most)]);
        } else if (kind < 7) {
            out.append('(');
            sum(r, out, law, depth - 1);
            out.append(')');
        } else if (kind == 7) {
            out.append('-');
            one(r, out, law, depth - 1);
        } else if (kind == 8) {
            out.append("digit ");
            one(r, out, law, depth - 1);
            out.append(" of ");
            one(r, out, law, depth - 1);
        } else if (kind == 9) {
            out.append("ice ");
            one(r, out, law, depth - 1);
        } else {
            out.append("if ");
            either(r, out, law, depth - 1);
            out.append(" then ");
            sum(r, out, law, depth - 1);
            out.append(" else ");
            sum(r, out, law, depth - 1);
            out.append(" end");
        }
    }

    private static void either(Random r, StringBuilder out, int law, int depth) {
        ask(r, out, law, depth);
        while (r.nextInt(3) == 0) {
            out.append(r.nextBoolean() ? " or " : " and ");
            ask(r, out, law, depth);
        }
    }

    private static void ask(Random r, StringBuilder out, int law, int depth) {
        if (depth > 0 && r.nextInt(4) == 0) {
            out.append("not ");
            ask(r, out, law, depth - 1);
            return;
        }
        sum(r, out, law, depth);
        out.append(new String[] {"<", "<=", ">", ">=", "=", "#"}[r.nextInt(6)]);
        sum(r, out, law, depth);
    }

    static void spoil(Random r, StringBuilder text) {
        int at = r.nextInt(text.length());
        switch (r.nextInt(5)) {
            case 0:
                text.deleteCharAt(at);
                break;
            case 1:
                text.setLength(at);
                break;
            case 2:
                text.insert(at, (char) r.nextInt(256));
                break;
            case 3:
                text.insert(at, " ".concat(PIECES[r.nextInt(PIECES.length)]).concat(" "));
                break;
            default:
                int space = text.indexOf(" ", at);
                if (space >= 0) {
                    int stop = text.indexOf(" ", space + 1);
                    text.replace(space + 1, stop < 0 ? text.length() : stop, PIECES[r.nextInt(PIECES.length)]);
                }
                break;
        }
    }
}
