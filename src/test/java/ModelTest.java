import java.util.Random;

/** Runs of drawn calls, the same on NamesInMelt and on the Model: all answers must be alike. */
public final class ModelTest {
    private static final int RUNS = 400;
    private static final int CALLS = 512;

    private static final String[] ASKS = {"of", "of", "of", "ofFamily", "law", "law", "law", "is", "is", "book", "book",
        "foretold", "foretold", "stable", "stable", "stables", "rests", "gladdest", "whole", "whole", "clear", "clear",
        "joins", "joins", "layers", "rhyme", "kindred", "power", "power", "dummies", "veto", "coalitions", "whose",
        "richest", "next", "frozen", "ledger", "about", "fault"};
    private static final String[] TELLS = {"name", "name", "family", "family", "eddy", "by", "by", "call", "call",
        "call", "stone", "stone", "stone", "stand", "stand", "sink", "sink", "hour", "hour", "hour", "hour", "hour",
        "played", "played", "springs", "undo", "undo", "wants", "wants", "wants", "wants", "favours", "favours",
        "favours", "give", "give", "half", "half", "half", "quota", "said", "said", "image", "back", "end", "text"};

    private final Random random;
    private final Both pair = new Both();

    private ModelTest(long seed) {
        random = new Random(seed);
    }

    public static void main(String[] args) throws Exception {
        int runs = args.length > 0 ? Integer.parseInt(args[0]) : RUNS;
        long first = args.length > 1 ? Long.parseLong(args[1]) : 1;
        int bad = 0;
        for (long seed = first; seed < first + runs && bad < 3; seed++) {
            ModelTest t = new ModelTest(seed);
            t.run(seed);
            if (t.pair.wrong) {
                bad++;
            }
        }
        System.out.println(bad == 0 ? runs + " runs are alike" : bad + " runs are not alike");
        if (bad != 0) {
            System.exit(1);
        }
    }

    private void run(long seed) throws Exception {
        boolean late = seed % 10 == 0;
        if (late) {
            for (int i = 0; i < 165; i++) {
                both("hour", 60);
            }
        }
        boolean crowded = random.nextBoolean();
        for (int i = 0; crowded && i < 5; i++) {
            both("name", sounds(), random.nextInt(10));
            both("family", 1 + random.nextInt(9), random.nextInt(10));
        }
        if (random.nextInt(3) == 0) {
            likeAll();
        }
        if (random.nextInt(3) == 0) {
            joinAll();
        }
        while (pair.log.size() < CALLS && !pair.wrong) {
            int kind = random.nextInt(20);
            if (kind == 0) {
                feedText();
            } else if (kind < 9) {
                callOne(TELLS[random.nextInt(TELLS.length)]);
            } else {
                callOne(ASKS[random.nextInt(ASKS.length)]);
            }
        }
        if (pair.wrong) {
            System.out.println("seed " + seed + ":");
            for (String line : pair.log) {
                System.out.println("  " + line);
            }
        }
    }

    private void likeAll() throws Exception {
        for (int f = 0; f < 5; f++) {
            for (int n = 0; n < 6; n++) {
                both("wants", f, n, random.nextInt(6));
                both("favours", n, f, random.nextInt(6));
            }
        }
        both("stables");
    }

    /** Few sounds and short names, so that many pairs join. */
    private void joinAll() throws Exception {
        for (int i = 0; i < 6; i++) {
            both("name", (1 + random.nextInt(2)) * 10 + 1 + random.nextInt(2 + random.nextInt(2)), random.nextInt(10));
        }
        for (int i = 0; i < 8; i++) {
            both("half", 1 + random.nextInt(3));
            both("joins", -1);
            for (int k = 0; k < 4; k++) {
                both("joins", k);
            }
        }
    }

    private int sounds() {
        int value = 0;
        int digits = 1 + random.nextInt(5);
        for (int i = 0; i < digits; i++) {
            value = value * 10 + 1 + random.nextInt(3);
        }
        return value;
    }

    /** Mostly a number that means something, now and then one at or beyond the edge. */
    private int number(int low, int high) {
        switch (random.nextInt(24)) {
            case 0:
                return low - 1 - random.nextInt(2);
            case 1:
                return high + 1 + random.nextInt(2);
            case 2:
                return random.nextInt(4) == 0 ? random.nextInt() : low;
            case 3:
                return high;
            default:
                return low + random.nextInt(high - low + 1);
        }
    }

    private void callOne(String call) throws Exception {
        switch (call) {
            case "name":
                both(call, random.nextInt(8) == 0 ? number(-1, 111111) : sounds(), number(0, 9));
                break;
            case "family":
                both(call, number(1, 9), number(0, 9));
                break;
            case "eddy":
                both(call, number(0, 9), random.nextBoolean());
                break;
            case "stone":
                both(call, number(0, 9), random.nextInt(4) != 0);
                break;
            case "by":
                both(call, number(-1, 3));
                break;
            case "call": case "sink": case "kindred":
                both(call, number(0, 5));
                break;
            case "stand":
                both(call, number(0, 4), number(0, 9));
                break;
            case "hour":
                both(call, random.nextInt(5) == 0 ? number(1, 60) : number(1, 3));
                break;
            case "played":
                both(call, number(0, 3));
                break;
            case "springs":
                both(call, number(0, 9999), number(1, 40));
                break;
            case "of":
                both(call, number(0, 5), number(0, 4));
                break;
            case "ofFamily":
                both(call, number(0, 4), number(0, 2));
                break;
            case "law":
                both(call, number(0, 5), number(0, 4), number(0, 2));
                break;
            case "is":
                both(call, number(0, 4));
                break;
            case "book":
                both(call, number(-1, 29), number(0, 3));
                break;
            case "foretold":
                both(call, random.nextBoolean() ? number(1, 60) : number(1, 4), number(0, 5), number(0, 1));
                break;
            case "wants":
                both(call, number(0, 4), number(0, 5), random.nextBoolean() ? number(0, 4) : number(0, 99));
                break;
            case "favours":
                both(call, number(0, 5), number(0, 4), random.nextBoolean() ? number(0, 4) : number(0, 99));
                break;
            case "stable": case "power":
                both(call, number(0, 4), random.nextBoolean());
                break;
            case "give":
                both(call, number(0, 4), number(-1, 5));
                break;
            case "gladdest":
                both(call, number(0, 4));
                break;
            case "whole":
                both(call, number(0, 5), number(0, 5), number(0, 9), random.nextBoolean());
                break;
            case "clear":
                both(call, number(0, 5), number(0, 5), number(4, 9), number(1, 10));
                break;
            case "half":
                both(call, random.nextInt(30) == 0 ? -1 : random.nextInt(10) == 0 ? number(0, 111111) : sounds() % 1000);
                break;
            case "joins":
                both(call, number(-1, 3));
                break;
            case "layers":
                both(call, number(0, 63));
                break;
            case "rhyme":
                both(call, number(0, 5), number(0, 5));
                break;
            case "quota":
                both(call, random.nextBoolean() ? number(1, 99) : number(1, 20));
                break;
            case "said":
                tellSaid();
                break;
            case "ledger":
                both(call, number(0, 2));
                break;
            case "about":
                both(call, number(0, 7));
                break;
            case "fault":
                both(call, number(0, 1));
                break;
            case "end":
                both(call, number(0, 60));
                break;
            case "image": case "back":
                if (random.nextInt(3) == 0) {
                    both(call);
                }
                break;
            case "undo":
                for (int i = random.nextInt(10) == 0 ? 32 : 1 + random.nextInt(3); i > 0; i--) {
                    both(call);
                }
                break;
            default:
                both(call);
                break;
        }
    }

    private void tellSaid() throws Exception {
        int name = number(-1, 5);
        if (random.nextInt(4) != 0 && name >= 0) {
            int melts = pair.model.law(name, 0, 0);
            if (melts >= -99) {
                both("said", name, melts);
                both("whose");
                return;
            }
        }
        both("said", name, number(-99, 99));
    }

    private void feedText() throws Exception {
        StringBuilder text = new StringBuilder(TextDraw.draw(random));
        while (random.nextInt(3) == 0 && text.length() > 0) {
            TextDraw.spoil(random, text);
        }
        if (text.length() > 300) {
            text.setLength(300);
        }
        if (random.nextInt(20) != 0) {
            both("end", 0);
        }
        int length = text.length();
        while (text.length() % 20 != 0) {
            text.append((char) random.nextInt(256));
        }
        for (int i = 0; i < text.length(); i += 20) {
            Object[] five = new Object[5];
            for (int k = 0; k < 5; k++) {
                int at = i + 4 * k;
                five[k] = text.charAt(at) << 24 | text.charAt(at + 1) << 16 | text.charAt(at + 2) << 8
                    | text.charAt(at + 3);
            }
            both("feed", five);
        }
        both("end", length);
        both("text");
        both("fault", 0);
        both("fault", 1);
        both("about", 7);
        both("about", 2);
        if (random.nextBoolean()) {
            both("by", number(0, 3));
        }
        if (random.nextBoolean()) {
            both("played", number(0, 3));
        }
        for (int i = random.nextInt(6); i > 0; i--) {
            both("law", number(0, 5), number(0, 4), number(0, 2));
        }
    }

    private void both(String call, Object... args) throws Exception {
        if (!pair.wrong && pair.log.size() < CALLS) {
            pair.call(call, args);
        }
    }
}
