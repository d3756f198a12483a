import java.util.Arrays;

/**
 * Names in the melt: names that come down a stream of cells and have to be claimed before the mill.
 * The document's terms (NAME, FAMILY, CELL, STEP, ...) are used in the comments as it uses them.
 */
public final class NamesInMelt {
    public static final int NONE = -1;

    /** The answer "for others" of calls in which NONE has a meaning of its own. */
    private static final int OTHER = -2;
    private static final int NO_LAW = -100;

    private static final int NAMES = 6;
    private static final int FAMILIES = 5;
    private static final int CELLS = 10;
    private static final int LAYERS = 10;
    private static final int GREATEST_NET = 9;
    private static final int GREATEST_LIKING = 99;
    private static final int GREATEST_QUOTA = 99;
    private static final int FIRST_QUOTA = 10;
    private static final int GREATEST_SOUNDS = 99999;
    private static final int MOST_SOUNDS = 5;
    private static final int LAST_HOUR = 9999;
    private static final int HOURS_AT_ONCE = 60;
    private static final int LINES = 30;
    private static final int STEPS = 30;
    private static final int HALVES = 8;
    private static final int SAYINGS = 8;

    private static final int MILL = 9;
    private static final int MILLED = 10;
    private static final int WITH_FAMILY = 20;

    private static final int CLAIMED_LINE = 0;
    private static final int MILLED_LINE = 1;
    private static final int BROKEN_LINE = 2;

    private static final int FIRST_X = 307;
    private static final int X_TIMES = 563;
    private static final int X_PLUS = 433;
    private static final int X_ROUND = 30773;
    private static final int GREATEST_SEED = 9999;
    private static final int SPRINGS_AT_ONCE = 40;

    private static final int TEXTS = 4;
    private static final int TAPE = 300;
    private static final int FED = 20;
    private static final int CLAUSES = 24;
    /** More than a tape can need: no byte makes more than one instruction, and each law one more. */
    private static final int CODE = 320;
    /** More than eight open constructs with all that may wait in each of them can need. */
    private static final int STACK = 96;
    private static final int DEEPEST = 8;
    private static final int GREATEST_NUMBER = 9999;
    private static final int BOUND = 1000000;
    private static final int LAW_BOUND = 99;
    private static final int[] TENS = {1, 10, 100, 1000, 10000, 100000, 1000000};

    private static final int[] FACTORIALS = {1, 1, 2, 6, 24, 120};
    /** Above what Euclid's way with two longs can need. */
    private static final int EUCLID_TURNS = 100;

    /** The words of the language; a word's TOKEN is its place here, so the constants keep this order. */
    private static final String WORDS =
        "melts breaks claims name family call lay take stand sink hour warm layer size who sounds cell net house in at of if then else end or and not digit ice ";
    private static final int MELTS = 0;
    private static final int BREAKS = 1;
    private static final int CLAIMS = 2;
    private static final int NAME = 3;
    private static final int FAMILY = 4;
    private static final int CALL = 5;
    private static final int LAY = 6;
    private static final int TAKE = 7;
    private static final int STAND = 8;
    private static final int SINK = 9;
    private static final int HOUR = 10;
    private static final int SOUNDS = 15;
    private static final int CELL = 16;
    private static final int HOUSE = 18;
    private static final int IN = 19;
    private static final int AT = 20;
    private static final int OF = 21;
    private static final int IF = 22;
    private static final int THEN = 23;
    private static final int ELSE = 24;
    private static final int END = 25;
    private static final int OR = 26;
    private static final int AND = 27;
    private static final int NOT = 28;
    private static final int DIGIT = 29;
    private static final int ICE = 30;
    private static final int UNKNOWN = 31;
    private static final int NUMBER = 32;

    /** The single signs; a sign's TOKEN is FIRST_SIGN and its place here. */
    private static final String SIGNS = "<>=#+-*/();";
    private static final int FIRST_SIGN = 40;
    private static final int LESS = 40;
    private static final int MORE = 41;
    private static final int EQUAL = 42;
    private static final int UNLIKE = 43;
    private static final int PLUS = 44;
    private static final int MINUS = 45;
    private static final int TIMES = 46;
    private static final int OVER = 47;
    private static final int OPEN = 48;
    private static final int CLOSE = 49;
    private static final int SEMICOLON = 50;
    private static final int AT_MOST = 51;
    private static final int AT_LEAST = 52;
    private static final int FINISH = 53;
    private static final int STRANGE = 54;
    /** An instruction that no TOKEN of its own stands for: the - of one ONE. */
    private static final int NEGATE = 55;

    private static final int MISPLACED = 1;
    private static final int OUT_OF_RANGE = 2;
    private static final int TOO_DEEP = 3;
    private static final int SECOND_LAW = 4;
    private static final int NOT_OF_CLAUSE = 5;
    private static final int TOO_MANY = 6;
    private static final int SILENT_SOUND = 7;

    private final Valley valley;
    private final Water water;
    private final Valley image;
    private final Water foreseen;
    private final Text[] texts;
    private final int[] tape;
    private final Reader reader;
    private final Judge judge;
    private final Flow flow;
    private final Pairing pairing;
    private final Joining joining;
    private final Nets nets;
    private final Passage passage;
    private int bytes;
    private boolean anyRead;
    private int latestFault;
    private int latestPlace;

    public NamesInMelt() {
        valley = new Valley();
        water = valley.water;
        image = new Valley();
        foreseen = new Water();
        texts = new Text[TEXTS];
        for (int i = 0; i < TEXTS; i++) {
            texts[i] = new Text();
        }
        tape = new int[TAPE];
        reader = new Reader(tape);
        judge = new Judge(valley);
        flow = new Flow(valley, judge);
        pairing = new Pairing(valley);
        joining = new Joining(valley);
        nets = new Nets(valley);
        passage = new Passage(judge);
        latestPlace = NONE;
    }

    public int name(int sounds, int layer) {
        int size = countSounds(sounds);
        int number = water.names;
        if (size == 0 || layer < 0 || layer >= LAYERS || number < 0 || number >= NAMES) {
            return NONE;
        }
        valley.sounds[number] = sounds;
        valley.layer[number] = layer;
        water.place[number] = NONE;
        water.size[number] = size;
        water.names++;
        return number;
    }

    public int family(int net, int cell) {
        int number = water.families;
        if (net < 1 || net > GREATEST_NET || !isCell(cell) || number < 0 || number >= FAMILIES) {
            return NONE;
        }
        valley.net[number] = net;
        valley.home[number] = cell;
        water.stand[number] = cell;
        water.families++;
        return number;
    }

    public boolean eddy(int cell, boolean is) {
        if (!isCell(cell)) {
            return false;
        }
        valley.eddies = is ? valley.eddies | 1 << cell : valley.eddies & ~(1 << cell);
        return true;
    }

    public int feed(int a, int b, int c, int d, int e) {
        if (bytes + FED > TAPE) {
            return NONE;
        }
        putFour(a);
        putFour(b);
        putFour(c);
        putFour(d);
        putFour(e);
        return bytes;
    }

    public int end(int n) {
        if (n < 0 || n > bytes) {
            return NONE;
        }
        bytes = n;
        return n;
    }

    public int text() {
        int number = valley.texts;
        if (number < 0 || number >= TEXTS) {
            return NONE;
        }
        Text text = texts[number];
        if (text == null) {
            return NONE;
        }
        reader.readInto(text, bytes);
        bytes = 0;
        anyRead = true;
        latestFault = reader.faultKind;
        latestPlace = reader.faultPlace;
        if (latestFault != 0) {
            return NONE;
        }
        valley.texts++;
        return number;
    }

    public int fault(int what) {
        if (!anyRead) {
            return NONE;
        }
        if (what == 0) {
            return latestFault;
        }
        return what == 1 ? latestPlace : NONE;
    }

    public boolean by(int text) {
        if (text != NONE && !isText(text)) {
            return false;
        }
        valley.ruling = text;
        return true;
    }

    public boolean call(int name) {
        if (!water.isFrozen(name)) {
            return false;
        }
        valley.steps.keep(water);
        water.place[name] = 0;
        return true;
    }

    public boolean stone(int cell, boolean lay) {
        if (!isCell(cell) || hasBit(water.stones, cell) == lay) {
            return false;
        }
        valley.steps.keep(water);
        water.stones ^= 1 << cell;
        return true;
    }

    public boolean stand(int family, int cell) {
        if (!isFamily(family) || !isCell(cell) || water.stand[family] == cell) {
            return false;
        }
        valley.steps.keep(water);
        water.stand[family] = cell;
        return true;
    }

    public boolean sink(int name) {
        if (!water.isClaimed(name)) {
            return false;
        }
        valley.steps.keep(water);
        water.place[name] = 0;
        return true;
    }

    public int hour(int n) {
        if (n < 1 || n > HOURS_AT_ONCE || n > LAST_HOUR - water.hour) {
            return NONE;
        }
        return passHours(n);
    }

    public int played(int text) {
        Text script = findText(text);
        if (script == null) {
            return OTHER;
        }
        for (int i = 0; i < script.clauses && i < CLAUSES; i++) {
            if (!playClause(script.kind[i], script.first[i], script.second[i])) {
                return i;
            }
        }
        return NONE;
    }

    public int springs(int seed, int n) {
        if (seed < 0 || seed > GREATEST_SEED || n < 1 || n > SPRINGS_AT_ONCE) {
            return NONE;
        }
        valley.steps.keep(water);
        water.x = seed * 2 + FIRST_X;
        for (int i = 0; i < n; i++) {
            int x = water.x;
            water.renewX();
            spring(x);
        }
        return water.hour;
    }

    public int undo() {
        return valley.takeBack() ? valley.steps.count : NONE;
    }

    public int of(int name, int what) {
        if (!isName(name)) {
            return OTHER;
        }
        switch (what) {
            case 0:
                return valley.sounds[name];
            case 1:
                return valley.layer[name];
            case 2:
                return water.size[name];
            case 3:
                return water.place[name];
            case 4:
                return leftOf(valley.sounds[name], water.size[name]);
            default:
                return OTHER;
        }
    }

    public int ofFamily(int family, int what) {
        if (!isFamily(family)) {
            return NONE;
        }
        switch (what) {
            case 0:
                return valley.net[family];
            case 1:
                return water.stand[family];
            case 2:
                return water.namesIn(WITH_FAMILY + family);
            default:
                return NONE;
        }
    }

    public int law(int name, int family, int what) {
        if (!isName(name)) {
            return NO_LAW;
        }
        Text ruling = findText(valley.ruling);
        int cell = water.cellOf(name);
        if (what == MELTS) {
            return judge.askMelts(ruling, water, name);
        }
        if (what == BREAKS) {
            return judge.askBreaks(ruling, water, name, cell);
        }
        if (what == CLAIMS && isFamily(family)) {
            return judge.askClaims(ruling, water, name, cell, family);
        }
        return NO_LAW;
    }

    public int is(int what) {
        switch (what) {
            case 0:
                return water.hour;
            case 1:
                return water.x;
            case 2:
                return water.warm;
            case 3:
                return water.stones;
            case 4:
                return valley.eddies;
            default:
                return OTHER;
        }
    }

    public int book(int i, int what) {
        if (i == NONE) {
            return water.written;
        }
        if (i < 0 || i >= water.written || i >= LINES) {
            return OTHER;
        }
        int line = water.lines[i];
        switch (what) {
            case 0:
                return line / 1000;
            case 1:
                return line / 100 % 10;
            case 2:
                return line / 10 % 10;
            case 3:
                return line % 10;
            default:
                return OTHER;
        }
    }

    public int foretold(int n, int name, int what) {
        if (n < 1 || n > HOURS_AT_ONCE || !isName(name) || what < 0 || what > 1) {
            return OTHER;
        }
        foreseen.become(water);
        Text ruling = findText(valley.ruling);
        int hours = Math.min(n, LAST_HOUR - water.hour);
        for (int i = 0; i < hours; i++) {
            flow.passHour(ruling, foreseen);
        }
        return what == 0 ? foreseen.place[name] : foreseen.size[name];
    }

    public boolean wants(int family, int name, int want) {
        if (!couldLike(family, name, want)) {
            return false;
        }
        valley.want[family * NAMES + name] = want;
        return true;
    }

    public boolean favours(int name, int family, int favour) {
        if (!couldLike(family, name, favour)) {
            return false;
        }
        valley.favour[name * FAMILIES + family] = favour;
        return true;
    }

    public int stable(int family, boolean theirs) {
        if (!isFamily(family)) {
            return NONE;
        }
        pairing.settle(theirs);
        return pairing.hasOf(family);
    }

    public int stables() {
        return pairing.countStable();
    }

    public boolean give(int family, int name) {
        if (!isFamily(family)) {
            return false;
        }
        if (name != NONE) {
            if (!isName(name)) {
                return false;
            }
            int owner = pairing.ownerOf(valley.given, name);
            if (owner != NONE && owner != family) {
                return false;
            }
        }
        valley.given[family] = name;
        return true;
    }

    public int rests() {
        return pairing.countRather(valley.given);
    }

    public int gladdest(int family) {
        if (!isFamily(family)) {
            return NONE;
        }
        int best = NONE;
        for (int name = 0; name < water.names && name < NAMES; name++) {
            if (pairing.isWanted(family, name) && pairing.likesMore(true, family, name, best)) {
                best = name;
            }
        }
        return best;
    }

    public long whole(int name, int from, int to, boolean low) {
        if (!isName(name) || !isWay(from, to)) {
            return NONE;
        }
        passage.look(findText(valley.ruling), water, name, from, to);
        long upper = passage.upperWithout(0);
        long lower = passage.lowerWithout(0);
        long shared = greatestShared(upper, lower);
        if (shared == 0) {
            return NONE;
        }
        return (low ? lower : upper) / shared;
    }

    public int clear(int name, int from, int to, int odds) {
        if (!isName(name) || !isWay(from, to) || odds < 1 || odds > 10) {
            return NONE;
        }
        passage.look(findText(valley.ruling), water, name, from, to);
        return passage.fewestToClear(odds);
    }

    public int half(int sounds) {
        if (sounds == NONE) {
            valley.halfCount = 0;
            return 0;
        }
        int number = valley.halfCount;
        if (countSounds(sounds) == 0 || number < 0 || number >= HALVES) {
            return OTHER;
        }
        valley.halves[number] = sounds;
        valley.halfCount++;
        return valley.halfCount;
    }

    public int joins(int i) {
        if (i < NONE) {
            return OTHER;
        }
        joining.join();
        if (i == NONE) {
            return joining.count;
        }
        return i < joining.count && i < joining.pairs.length ? joining.pairs[i] : OTHER;
    }

    public int layers(int names) {
        if (names < 0 || names >= 1 << water.names) {
            return NONE;
        }
        int bits = 0;
        for (int name = 0; name < water.names && name < NAMES; name++) {
            if (hasBit(names, name)) {
                bits |= 1 << valley.layer[name];
            }
        }
        return bits;
    }

    public int rhyme(int a, int b) {
        if (!isName(a) || !isName(b)) {
            return NONE;
        }
        return countShared(valley.sounds[a], valley.sounds[b]);
    }

    public int kindred(int name) {
        if (!isName(name)) {
            return NONE;
        }
        int best = NONE;
        int most = 0;
        for (int other = 0; other < water.names && other < NAMES; other++) {
            int shared = other == name ? 0 : countShared(valley.sounds[name], valley.sounds[other]);
            if (shared > most) {
                most = shared;
                best = other;
            }
        }
        return best;
    }

    public boolean quota(int nets) {
        if (nets < 1 || nets > GREATEST_QUOTA) {
            return false;
        }
        valley.quota = nets;
        return true;
    }

    public int power(int family, boolean low) {
        int families = water.families;
        if (!isFamily(family) || families < 0 || families >= FACTORIALS.length) {
            return NONE;
        }
        int upper = nets.countPivots(family);
        int lower = FACTORIALS[families];
        long shared = greatestShared(upper, lower);
        if (shared == 0) {
            return NONE;
        }
        return (int) ((low ? lower : upper) / shared);
    }

    public int dummies() {
        int bits = 0;
        for (int family = 0; family < water.families; family++) {
            if (nets.countPivots(family) == 0) {
                bits |= 1 << family;
            }
        }
        return bits;
    }

    public int veto() {
        int bits = (1 << water.families) - 1;
        for (int set = 0; set < 1 << water.families; set++) {
            if (nets.reachesQuota(set)) {
                bits &= set;
            }
        }
        return bits;
    }

    public int coalitions() {
        int count = 0;
        for (int set = 0; set < 1 << water.families; set++) {
            if (nets.reachesQuota(set)) {
                count++;
            }
        }
        return count;
    }

    public int said(int name, int melts) {
        if (name == NONE) {
            valley.saidCount = 0;
            return 0;
        }
        int number = valley.saidCount;
        if (!isName(name) || melts < -LAW_BOUND || melts > LAW_BOUND || number < 0 || number >= SAYINGS) {
            return OTHER;
        }
        valley.saidName[number] = name;
        valley.saidMelts[number] = melts;
        valley.saidCount++;
        return valley.saidCount;
    }

    public int whose() {
        int bits = 0;
        for (int i = 0; i < valley.texts; i++) {
            if (fitsSaid(findText(i))) {
                bits |= 1 << i;
            }
        }
        return bits;
    }

    public int richest() {
        int best = NONE;
        int most = 0;
        for (int family = 0; family < water.families; family++) {
            int has = Integer.bitCount(water.namesIn(WITH_FAMILY + family));
            if (has > most) {
                most = has;
                best = family;
            }
        }
        return best;
    }

    public int next() {
        int best = NONE;
        int farthest = NONE;
        for (int name = 0; name < water.names && name < NAMES; name++) {
            int place = water.place[name];
            if (place < MILLED && place > farthest) {
                farthest = place;
                best = name;
            }
        }
        return best;
    }

    public int frozen() {
        return water.namesIn(NONE);
    }

    public int ledger(int what) {
        if (what < CLAIMED_LINE || what > BROKEN_LINE) {
            return OTHER;
        }
        int count = 0;
        for (int i = 0; i < water.written && i < LINES; i++) {
            if (water.lines[i] / 10 % 10 == what) {
                count++;
            }
        }
        return count;
    }

    public int image() {
        image.become(valley);
        return water.hour;
    }

    public int back() {
        valley.become(image);
        return water.hour;
    }

    public int about(int what) {
        switch (what) {
            case 0:
                return water.names;
            case 1:
                return water.families;
            case 2:
                return valley.texts;
            case 3:
                return valley.ruling;
            case 4:
                return valley.steps.count;
            case 5:
                return valley.halfCount;
            case 6:
                return valley.saidCount;
            case 7:
                return bytes;
            default:
                return OTHER;
        }
    }

    private boolean isName(int name) {
        return name >= 0 && name < water.names && name < NAMES;
    }

    private boolean isFamily(int family) {
        return family >= 0 && family < water.families && family < FAMILIES;
    }

    private boolean isText(int text) {
        return text >= 0 && text < valley.texts && text < TEXTS;
    }

    private static boolean isCell(int cell) {
        return cell >= 0 && cell < CELLS;
    }

    private static boolean isWay(int from, int to) {
        return isCell(from) && isCell(to) && from <= to;
    }

    /** WANTS and FAVOURS may be told of NAMES and FAMILIES that aren't there yet. */
    private static boolean couldLike(int family, int name, int liking) {
        return family >= 0 && family < FAMILIES && name >= 0 && name < NAMES && liking >= 0
            && liking <= GREATEST_LIKING;
    }

    private Text findText(int text) {
        return isText(text) ? texts[text] : null;
    }

    private void putFour(int four) {
        for (int shift = 24; shift >= 0; shift -= 8) {
            if (bytes >= 0 && bytes < TAPE) {
                tape[bytes] = four >>> shift & 255;
                bytes++;
            }
        }
    }

    private int passHours(int n) {
        Text ruling = findText(valley.ruling);
        int claimed = 0;
        for (int i = 0; i < n; i++) {
            valley.steps.keep(water);
            claimed += flow.passHour(ruling, water);
        }
        return claimed;
    }

    /** Answers false if the CLAUSE can't be; laws can always be, as nothing is done by them. */
    private boolean playClause(int kind, int first, int second) {
        switch (kind) {
            case NAME:
                return name(first, second) != NONE;
            case FAMILY:
                return family(first, second) != NONE;
            case CALL:
                return call(first);
            case LAY:
                return stone(first, true);
            case TAKE:
                return stone(first, false);
            case STAND:
                return stand(first, second);
            case SINK:
                return sink(first);
            case HOUR:
                int hours = Math.min(first, LAST_HOUR - water.hour);
                passHours(hours);
                return hours == first;
            default:
                return true;
        }
    }

    private void spring(int x) {
        int cell = x / 7 % CELLS;
        int name = water.names > 0 ? x % water.names : NONE;
        int family = water.families > 0 ? x % water.families : NONE;
        switch (x % 7) {
            case 0:
                if (water.isFrozen(name)) {
                    water.place[name] = 0;
                }
                break;
            case 1:
                water.stones |= 1 << cell;
                break;
            case 2:
                water.stones &= ~(1 << cell);
                break;
            case 3:
                if (isFamily(family)) {
                    water.stand[family] = cell;
                }
                break;
            case 4:
                if (water.isClaimed(name)) {
                    water.place[name] = 0;
                }
                break;
            default:
                if (water.hour < LAST_HOUR) {
                    flow.passHour(findText(valley.ruling), water);
                }
                break;
        }
    }

    private boolean fitsSaid(Text text) {
        for (int i = 0; i < valley.saidCount && i < SAYINGS; i++) {
            int name = valley.saidName[i];
            if (!isName(name) || judge.askMelts(text, water, name) != valley.saidMelts[i]) {
                return false;
            }
        }
        return true;
    }

    private static boolean hasBit(int bits, int bit) {
        return (bits >> bit & 1) != 0;
    }

    /** How many SOUNDS a number has; 0 if it is none of SOUNDS. */
    private static int countSounds(int sounds) {
        if (sounds < 1 || sounds > GREATEST_SOUNDS) {
            return 0;
        }
        int count = 0;
        for (int rest = sounds; rest > 0 && count < MOST_SOUNDS; rest /= 10) {
            if (rest % 10 == 0) {
                return 0;
            }
            count++;
        }
        return count;
    }

    private static int leftOf(int sounds, int size) {
        int left = sounds;
        for (int lost = countSounds(sounds) - size; lost > 0; lost--) {
            left /= 10;
        }
        return left;
    }

    private static int countShared(int one, int other) {
        int shared = 0;
        int a = one;
        int b = other;
        while (shared < MOST_SOUNDS && a > 0 && b > 0 && a % 10 == b % 10) {
            shared++;
            a /= 10;
            b /= 10;
        }
        return shared;
    }

    private static long greatestShared(long one, long other) {
        long a = one;
        long b = other;
        for (int turn = 0; turn < EUCLID_TURNS && b != 0; turn++) {
            long rest = a % b;
            a = b;
            b = rest;
        }
        return a;
    }

    /** What a STEP changes, and so what is kept to take it back. */
    private static final class Water {
        /** As promised of where a NAME is: NONE in the ice, a CELL, MILLED, or WITH_FAMILY and the FAMILY. */
        final int[] place = new int[NAMES];
        final int[] size = new int[NAMES];
        final int[] stand = new int[FAMILIES];
        /** BOOK, the eldest first: 1000 times HOUR, 100 times NAME, 10 times what, and FAMILY or CELL. */
        final int[] lines = new int[LINES];
        int written;
        int names;
        int families;
        int stones;
        int warm;
        int hour;
        int x = FIRST_X;

        void become(Water other) {
            System.arraycopy(other.place, 0, place, 0, NAMES);
            System.arraycopy(other.size, 0, size, 0, NAMES);
            System.arraycopy(other.stand, 0, stand, 0, FAMILIES);
            System.arraycopy(other.lines, 0, lines, 0, LINES);
            written = other.written;
            names = other.names;
            families = other.families;
            stones = other.stones;
            warm = other.warm;
            hour = other.hour;
            x = other.x;
        }

        void renewX() {
            x = (x * X_TIMES + X_PLUS) % X_ROUND;
        }

        int drawTenth() {
            int drawn = x % 10;
            renewX();
            return drawn;
        }

        int drawSide() {
            int drawn = x % 2;
            renewX();
            return drawn;
        }

        void writeLine(int name, int what, int where) {
            if (written >= LINES) {
                System.arraycopy(lines, 1, lines, 0, LINES - 1);
                written = LINES - 1;
            }
            if (written >= 0) {
                lines[written] = hour * 1000 + name * 100 + what * 10 + where;
                written++;
            }
        }

        boolean isFrozen(int name) {
            return name >= 0 && name < names && name < NAMES && place[name] == NONE;
        }

        boolean isClaimed(int name) {
            return name >= 0 && name < names && name < NAMES && place[name] >= WITH_FAMILY;
        }

        int cellOf(int name) {
            int where = name >= 0 && name < NAMES ? place[name] : NONE;
            return isCell(where) ? where : 0;
        }

        int namesIn(int where) {
            int bits = 0;
            for (int name = 0; name < names && name < NAMES; name++) {
                if (place[name] == where) {
                    bits |= 1 << name;
                }
            }
            return bits;
        }
    }

    /** The waters ahead of the latest STEPS, as a ring, so that no STEP makes an object. */
    private static final class Steps {
        final Water[] kept = new Water[STEPS];
        int first;
        int count;

        Steps() {
            for (int i = 0; i < STEPS; i++) {
                kept[i] = new Water();
            }
        }

        void keep(Water water) {
            if (count >= STEPS) {
                first = (first + 1) % STEPS;
                count = STEPS - 1;
            }
            Water slot = slotOf(count);
            if (slot != null) {
                slot.become(water);
            }
            count++;
        }

        /** Null if there is none. */
        Water takeLatest() {
            if (count <= 0) {
                return null;
            }
            count--;
            return slotOf(count);
        }

        /** Where the i-th STEP is kept, from the eldest on; null if there is no such place. */
        private Water slotOf(int i) {
            int at = (first + i) % STEPS;
            return at >= 0 ? kept[at] : null;
        }

        void become(Steps other) {
            for (int i = 0; i < other.count && i < STEPS; i++) {
                Water from = other.slotOf(i);
                Water to = kept[i];
                if (from != null && to != null) {
                    to.become(from);
                }
            }
            first = 0;
            count = other.count;
        }
    }

    /**
     * All that an IMAGE holds. Of TEXTS the number is enough: they only ever come behind one another,
     * so those that an IMAGE counts are never written over while it stands.
     */
    private static final class Valley {
        final int[] sounds = new int[NAMES];
        final int[] layer = new int[NAMES];
        final int[] net = new int[FAMILIES];
        final int[] home = new int[FAMILIES];
        final int[] want = new int[FAMILIES * NAMES];
        final int[] favour = new int[NAMES * FAMILIES];
        final int[] given = new int[FAMILIES];
        final int[] halves = new int[HALVES];
        final int[] saidName = new int[SAYINGS];
        final int[] saidMelts = new int[SAYINGS];
        final Water water = new Water();
        final Steps steps = new Steps();
        int eddies;
        int texts;
        int ruling = NONE;
        int quota = FIRST_QUOTA;
        int halfCount;
        int saidCount;

        Valley() {
            Arrays.fill(given, NONE);
        }

        void become(Valley other) {
            System.arraycopy(other.sounds, 0, sounds, 0, NAMES);
            System.arraycopy(other.layer, 0, layer, 0, NAMES);
            System.arraycopy(other.net, 0, net, 0, FAMILIES);
            System.arraycopy(other.home, 0, home, 0, FAMILIES);
            System.arraycopy(other.want, 0, want, 0, FAMILIES * NAMES);
            System.arraycopy(other.favour, 0, favour, 0, NAMES * FAMILIES);
            System.arraycopy(other.given, 0, given, 0, FAMILIES);
            System.arraycopy(other.halves, 0, halves, 0, HALVES);
            System.arraycopy(other.saidName, 0, saidName, 0, SAYINGS);
            System.arraycopy(other.saidMelts, 0, saidMelts, 0, SAYINGS);
            water.become(other.water);
            steps.become(other.steps);
            eddies = other.eddies;
            texts = other.texts;
            ruling = other.ruling;
            quota = other.quota;
            halfCount = other.halfCount;
            saidCount = other.saidCount;
        }

        /** Answers false if there is no STEP. NAMES and FAMILIES that the STEP didn't know are as told. */
        boolean takeBack() {
            Water ahead = steps.takeLatest();
            if (ahead == null) {
                return false;
            }
            int names = water.names;
            int families = water.families;
            water.become(ahead);
            for (int name = ahead.names; name < names && name < NAMES; name++) {
                water.place[name] = NONE;
                water.size[name] = countSounds(sounds[name]);
            }
            for (int family = ahead.families; family < families && family < FAMILIES; family++) {
                water.stand[family] = home[family];
            }
            water.names = names;
            water.families = families;
            return true;
        }
    }

    /** A TEXT as it was read: its CLAUSES, and its laws as instructions for a stack. */
    private static final class Text {
        final int[] kind = new int[CLAUSES];
        final int[] first = new int[CLAUSES];
        final int[] second = new int[CLAUSES];
        /** Where the law of MELTS, BREAKS, CLAIMS begins; NONE without. */
        final int[] begins = new int[CLAIMS + 1];
        final int[] op = new int[CODE];
        final int[] arg = new int[CODE];
        int clauses;
        int length;

        void empty() {
            clauses = 0;
            length = 0;
            Arrays.fill(begins, NONE);
        }

        boolean hasLaw(int law) {
            return law >= 0 && law < begins.length && begins[law] != NONE;
        }

        void addClause(int word, int a, int b) {
            if (clauses >= 0 && clauses < CLAUSES) {
                kind[clauses] = word;
                first[clauses] = a;
                second[clauses] = b;
                clauses++;
            }
        }

        /** Answers where the instruction stands, so that a jump can be aimed when its aim is known. */
        int emit(int what, int with) {
            int at = length;
            if (at >= 0 && at < CODE) {
                op[at] = what;
                arg[at] = with;
                length++;
            }
            return at;
        }

        void aimHere(int jump) {
            if (jump >= 0 && jump < CODE) {
                arg[jump] = length;
            }
        }
    }

    /** Reads a tape into a TEXT. Behind a FAULT no TOKEN comes any more, so that all reading ends. */
    private static final class Reader {
        final int[] tape;
        /** The TOKENS of the tape, FINISH the last of them; their first bytes; what NUMBERS are. */
        final int[] tokens = new int[TAPE + 1];
        final int[] places = new int[TAPE + 1];
        final int[] values = new int[TAPE + 1];
        Text text;
        int current;
        int token;
        int lastKnown;
        int faultKind;
        int faultPlace;

        Reader(int[] tape) {
            this.tape = tape;
            text = new Text();
        }

        void readInto(Text target, int bytes) {
            text = target;
            text.empty();
            faultKind = 0;
            faultPlace = NONE;
            splitTape(Math.min(bytes, Math.min(TAPE, tape.length)));
            current = 0;
            token = tokens[0];
            for (int i = 0; i <= CLAUSES && token != FINISH; i++) {
                readClause();
            }
        }

        private void splitTape(int length) {
            int count = 0;
            int at = 0;
            while (at < length && count < TAPE) {
                int sign = tape[at];
                int stop = at + 1;
                if (sign == ' ' || sign == '\n') {
                    at = stop;
                    continue;
                }
                if (isLetter(sign)) {
                    while (stop < length && isLetter(tape[stop])) {
                        stop++;
                    }
                    tokens[count] = findWord(at, stop);
                } else if (isDigit(sign)) {
                    while (stop < length && isDigit(tape[stop])) {
                        stop++;
                    }
                    tokens[count] = NUMBER;
                    values[count] = valueOf(at, stop);
                } else {
                    boolean orEqual = stop < length && tape[stop] == '=';
                    tokens[count] = findSign(sign, orEqual);
                    stop += tokens[count] == AT_MOST || tokens[count] == AT_LEAST ? 1 : 0;
                }
                places[count] = at;
                count++;
                at = stop;
            }
            tokens[count] = FINISH;
            places[count] = length;
        }

        private int findWord(int from, int stop) {
            int word = 0;
            int start = 0;
            for (int i = 0; i < WORDS.length(); i++) {
                if (WORDS.charAt(i) == ' ') {
                    if (i - start == stop - from && spells(start, i, from)) {
                        return word;
                    }
                    word++;
                    start = i + 1;
                }
            }
            return UNKNOWN;
        }

        /** Whether the signs of WORDS from start on, ahead of stop, stand on the tape from there on. */
        private boolean spells(int start, int stop, int from) {
            for (int i = start; i < stop; i++) {
                int at = from + i - start;
                if (at < 0 || at >= tape.length || WORDS.charAt(i) != tape[at]) {
                    return false;
                }
            }
            return true;
        }

        /** All that is too great is the same: one above the greatest NUMBER. */
        private int valueOf(int from, int stop) {
            int value = 0;
            for (int i = from; i >= 0 && i < stop && i < tape.length; i++) {
                value = Math.min(value * 10 + tape[i] - '0', GREATEST_NUMBER + 1);
            }
            return value;
        }

        private static int findSign(int sign, boolean orEqual) {
            if (orEqual && sign == '<') {
                return AT_MOST;
            }
            if (orEqual && sign == '>') {
                return AT_LEAST;
            }
            int place = SIGNS.indexOf((char) sign);
            return place < 0 ? STRANGE : FIRST_SIGN + place;
        }

        private void refuse(int kind) {
            if (faultKind == 0 && current >= 0 && current <= TAPE) {
                faultKind = kind;
                faultPlace = places[current];
            }
            token = FINISH;
        }

        private void advance() {
            if (token != FINISH && current >= 0 && current < TAPE) {
                current++;
                token = tokens[current];
            }
        }

        private void readClause() {
            int word = token;
            if (word < 0 || word > HOUR) {
                refuse(MISPLACED);
                return;
            }
            if (text.hasLaw(word)) {
                refuse(SECOND_LAW);
                return;
            }
            if (text.clauses >= CLAUSES) {
                refuse(TOO_MANY);
                return;
            }
            advance();
            int first = 0;
            int second = 0;
            if (word == MELTS || word == BREAKS || word == CLAIMS) {
                lastKnown = word == MELTS ? SOUNDS : word == BREAKS ? CELL : HOUSE;
                text.begins[word] = text.length;
                readSum(0);
                text.emit(FINISH, 0);
            } else if (word == NAME) {
                first = takeSounds();
                expect(IN);
                second = takeWithin(0, LAYERS - 1);
            } else {
                first = takeFirst(word);
                if (word == FAMILY || word == STAND) {
                    expect(AT);
                    second = takeWithin(0, CELLS - 1);
                }
            }
            expect(SEMICOLON);
            text.addClause(word, first, second);
        }

        private int takeFirst(int word) {
            switch (word) {
                case FAMILY:
                    return takeWithin(1, GREATEST_NET);
                case STAND:
                    return takeWithin(0, FAMILIES - 1);
                case LAY:
                case TAKE:
                    return takeWithin(0, CELLS - 1);
                case HOUR:
                    return takeWithin(1, HOURS_AT_ONCE);
                default:
                    return takeWithin(0, NAMES - 1);
            }
        }

        private int takeWithin(int least, int greatest) {
            if (token != NUMBER) {
                refuse(MISPLACED);
                return least;
            }
            int taken = valueHere();
            if (taken < least || taken > greatest) {
                refuse(OUT_OF_RANGE);
                return least;
            }
            advance();
            return taken;
        }

        private int valueHere() {
            return current >= 0 && current <= TAPE ? values[current] : 0;
        }

        private int takeSounds() {
            int sounds = valueHere();
            if (token == NUMBER && sounds >= 1 && sounds <= GREATEST_NUMBER && countSounds(sounds) == 0) {
                refuse(SILENT_SOUND);
            }
            return takeWithin(1, GREATEST_NUMBER);
        }

        private void expect(int wanted) {
            if (token == wanted) {
                advance();
            } else {
                refuse(MISPLACED);
            }
        }

        /** Steps over a TOKEN that opens; answers false if too many are open around it. */
        private boolean opens(int depth) {
            if (depth >= DEEPEST) {
                refuse(TOO_DEEP);
                return false;
            }
            advance();
            return true;
        }

        private void readSum(int depth) {
            readProduct(depth);
            for (int i = 0; i < TAPE && (token == PLUS || token == MINUS); i++) {
                int sign = token;
                advance();
                readProduct(depth);
                text.emit(sign, 0);
            }
        }

        private void readProduct(int depth) {
            readOne(depth);
            for (int i = 0; i < TAPE && (token == TIMES || token == OVER); i++) {
                int sign = token;
                advance();
                readOne(depth);
                text.emit(sign, 0);
            }
        }

        private void readOne(int depth) {
            if (token >= HOUR && token <= HOUSE) {
                readKnown();
                return;
            }
            switch (token) {
                case NUMBER:
                    text.emit(NUMBER, takeWithin(0, GREATEST_NUMBER));
                    break;
                case OPEN:
                    if (opens(depth)) {
                        readSum(depth + 1);
                        expect(CLOSE);
                    }
                    break;
                case MINUS:
                    if (opens(depth)) {
                        readOne(depth + 1);
                        text.emit(NEGATE, 0);
                    }
                    break;
                case DIGIT:
                    if (opens(depth)) {
                        readOne(depth + 1);
                        expect(OF);
                        readOne(depth + 1);
                        text.emit(DIGIT, 0);
                    }
                    break;
                case ICE:
                    if (opens(depth)) {
                        readOne(depth + 1);
                        text.emit(ICE, 0);
                    }
                    break;
                case IF:
                    if (opens(depth)) {
                        readChoice(depth + 1);
                    }
                    break;
                default:
                    refuse(MISPLACED);
                    break;
            }
        }

        private void readKnown() {
            if (token > lastKnown) {
                refuse(NOT_OF_CLAUSE);
                return;
            }
            text.emit(HOUR, token - HOUR);
            advance();
        }

        private void readChoice(int depth) {
            readEither(depth);
            expect(THEN);
            int unless = text.emit(THEN, 0);
            readSum(depth);
            expect(ELSE);
            int over = text.emit(ELSE, 0);
            text.aimHere(unless);
            readSum(depth);
            expect(END);
            text.aimHere(over);
        }

        private void readEither(int depth) {
            readBoth(depth);
            for (int i = 0; i < TAPE && token == OR; i++) {
                advance();
                readBoth(depth);
                text.emit(OR, 0);
            }
        }

        private void readBoth(int depth) {
            readAsk(depth);
            for (int i = 0; i < TAPE && token == AND; i++) {
                advance();
                readAsk(depth);
                text.emit(AND, 0);
            }
        }

        private void readAsk(int depth) {
            if (token == NOT) {
                if (opens(depth)) {
                    readAsk(depth + 1);
                    text.emit(NOT, 0);
                }
                return;
            }
            readSum(depth);
            int sign = token;
            if (sign >= LESS && sign <= UNLIKE || sign == AT_MOST || sign == AT_LEAST) {
                advance();
                readSum(depth);
                text.emit(sign, 0);
            } else {
                refuse(MISPLACED);
            }
        }

        private static boolean isLetter(int sign) {
            return sign >= 'a' && sign <= 'z' || sign >= 'A' && sign <= 'Z';
        }

        private static boolean isDigit(int sign) {
            return sign >= '0' && sign <= '9';
        }
    }

    /** Says what the laws of a TEXT (null: none) say of a NAME in a water. */
    private static final class Judge {
        final Valley valley;
        /** What the language's NAMES stand for, from hour to house, in the order of WORDS. */
        final int[] known = new int[HOUSE - HOUR + 1];
        final int[] stack = new int[STACK];

        Judge(Valley valley) {
            this.valley = valley;
        }

        int askMelts(Text text, Water water, int name) {
            if (name < 0 || name >= NAMES) {
                return 0;
            }
            if (text == null || !text.hasLaw(MELTS)) {
                return water.warm - valley.layer[name];
            }
            learn(water, name, 0);
            return within(run(text, MELTS, water), -LAW_BOUND, LAW_BOUND);
        }

        int askBreaks(Text text, Water water, int name, int cell) {
            if (text == null || !text.hasLaw(BREAKS)) {
                return 3;
            }
            learn(water, name, cell);
            return within(run(text, BREAKS, water), 0, 10);
        }

        int askClaims(Text text, Water water, int name, int cell, int family) {
            if (text == null || !text.hasLaw(CLAIMS) || family < 0 || family >= FAMILIES) {
                return 1;
            }
            learn(water, name, cell);
            known[7] = valley.net[family];
            known[8] = family;
            return within(run(text, CLAIMS, water), -LAW_BOUND, LAW_BOUND);
        }

        private void learn(Water water, int name, int cell) {
            if (name < 0 || name >= NAMES) {
                return;
            }
            known[0] = water.hour;
            known[1] = water.warm;
            known[2] = valley.layer[name];
            known[3] = water.size[name];
            known[4] = name;
            known[5] = valley.sounds[name];
            known[6] = cell;
        }

        /** Jumps go forwards alone, so no law takes more turns than it has instructions. */
        private int run(Text text, int law, Water water) {
            int at = text.begins[law];
            int top = 0;
            for (int turn = 0; turn < CODE && at >= 0 && at < CODE && top < STACK; turn++) {
                int op = text.op[at];
                int arg = text.arg[at];
                at++;
                if (op == NUMBER) {
                    stack[top] = arg;
                    top++;
                } else if (op == HOUR) {
                    stack[top] = arg >= 0 && arg < known.length ? known[arg] : 0;
                    top++;
                } else if (op == ELSE) {
                    at = arg;
                } else if (op == FINISH || top < 1) {
                    break;
                } else if (op == THEN) {
                    top--;
                    at = stack[top] == 0 ? arg : at;
                } else if (op == NEGATE) {
                    stack[top - 1] = -stack[top - 1];
                } else if (op == NOT) {
                    stack[top - 1] = 1 - stack[top - 1];
                } else if (op == ICE) {
                    stack[top - 1] = water.isFrozen(stack[top - 1]) ? 1 : 0;
                } else if (top < 2) {
                    break;
                } else {
                    top--;
                    stack[top - 1] = within(work(op, stack[top - 1], stack[top]), -BOUND, BOUND);
                }
            }
            return top > 0 ? stack[top - 1] : 0;
        }

        private static long work(int op, int a, int b) {
            switch (op) {
                case PLUS:
                    return (long) a + b;
                case MINUS:
                    return (long) a - b;
                case TIMES:
                    return (long) a * b;
                case OVER:
                    return b == 0 ? 0 : a / b;
                case DIGIT:
                    return a < 0 || a >= TENS.length ? 0 : Math.abs(b) / TENS[a] % 10;
                case AND:
                    return a & b;
                case OR:
                    return a | b;
                case LESS:
                    return a < b ? 1 : 0;
                case MORE:
                    return a > b ? 1 : 0;
                case EQUAL:
                    return a == b ? 1 : 0;
                case UNLIKE:
                    return a != b ? 1 : 0;
                case AT_MOST:
                    return a <= b ? 1 : 0;
                default:
                    return a >= b ? 1 : 0;
            }
        }

        private static int within(long value, int least, int greatest) {
            return (int) Math.max(least, Math.min(greatest, value));
        }
    }

    /** Lets an HOUR pass in a water, the one that is or one that is foreseen. */
    private static final class Flow {
        final Valley valley;
        final Judge judge;

        Flow(Valley valley, Judge judge) {
            this.valley = valley;
            this.judge = judge;
        }

        /** Answers how many NAMES are claimed. */
        int passHour(Text ruling, Water water) {
            int claimed = 0;
            water.warm = water.drawTenth();
            for (int name = 0; name < water.names && name < NAMES; name++) {
                int place = water.place[name];
                if (place == NONE) {
                    if (judge.askMelts(ruling, water, name) > 0) {
                        water.place[name] = 0;
                    }
                } else if (place < MILLED && drift(ruling, water, name)) {
                    claimed++;
                }
            }
            water.hour++;
            return claimed;
        }

        /** Answers whether the NAME is claimed. */
        private boolean drift(Text ruling, Water water, int name) {
            int cell = water.place[name];
            boolean stays = hasBit(valley.eddies, cell) && water.drawSide() == 0;
            if (!stays) {
                cell += water.warm > 4 ? 2 : 1;
                if (cell >= MILL) {
                    water.place[name] = MILLED;
                    water.writeLine(name, MILLED_LINE, MILL);
                    return false;
                }
                water.place[name] = cell;
                boolean strikes = hasBit(water.stones, cell) && water.size[name] > 1;
                if (strikes && water.drawTenth() < judge.askBreaks(ruling, water, name, cell)) {
                    water.size[name] = (water.size[name] + 1) / 2;
                    water.writeLine(name, BROKEN_LINE, cell);
                }
            }
            for (int family = 0; family < water.families && family < FAMILIES; family++) {
                boolean reaches = water.stand[family] == cell && valley.net[family] >= water.size[name];
                if (reaches && judge.askClaims(ruling, water, name, cell, family) > 0) {
                    water.place[name] = WITH_FAMILY + family;
                    water.writeLine(name, CLAIMED_LINE, family);
                    return true;
                }
            }
            return false;
        }
    }

    /** Ways that give NAMES to FAMILIES, and pairs that would rather. */
    private static final class Pairing {
        final Valley valley;
        /** What each FAMILY has, and each NAME, in the way that was settled last. */
        final int[] familyHas = new int[FAMILIES];
        final int[] nameHas = new int[NAMES];
        /** Whom each one that asks has asked already (bits). */
        final int[] asked = new int[NAMES];
        final int[] best = new int[FAMILIES];
        final int[] worst = new int[FAMILIES];
        final int[] way = new int[FAMILIES];

        Pairing(Valley valley) {
            this.valley = valley;
        }

        boolean isWanted(int family, int name) {
            return wantOf(family, name) > 0;
        }

        /** Whether one (a FAMILY, or a NAME) likes a more than b; b may be NONE. */
        boolean likesMore(boolean isFamily, int one, int a, int b) {
            if (b == NONE) {
                return true;
            }
            int likesA = isFamily ? wantOf(one, a) : favourOf(one, a);
            int likesB = isFamily ? wantOf(one, b) : favourOf(one, b);
            return likesA > likesB || likesA == likesB && a < b;
        }

        private int wantOf(int family, int name) {
            return couldLike(family, name, 0) ? valley.want[family * NAMES + name] : 0;
        }

        private int favourOf(int name, int family) {
            return couldLike(family, name, 0) ? valley.favour[name * FAMILIES + family] : 0;
        }

        int ownerOf(int[] given, int name) {
            for (int family = 0; family < valley.water.families && family < given.length; family++) {
                if (given[family] == name) {
                    return family;
                }
            }
            return NONE;
        }

        int countRather(int[] given) {
            int pairs = 0;
            for (int name = 0; name < valley.water.names && name < NAMES; name++) {
                int owner = ownerOf(given, name);
                for (int family = 0; family < valley.water.families && family < given.length; family++) {
                    if (isWanted(family, name) && likesMore(true, family, name, given[family])
                        && likesMore(false, name, family, owner)) {
                        pairs++;
                    }
                }
            }
            return pairs;
        }

        /** Those who ask end with the best of all STABLE ways: FAMILIES (theirs), or NAMES. */
        void settle(boolean theirs) {
            Arrays.fill(familyHas, NONE);
            Arrays.fill(nameHas, NONE);
            Arrays.fill(asked, 0);
            int askers = theirs ? Math.min(valley.water.families, FAMILIES) : Math.min(valley.water.names, NAMES);
            int[] has = theirs ? familyHas : nameHas;
            int[] had = theirs ? nameHas : familyHas;
            for (int first = 0; first < askers; first++) {
                int asker = first;
                for (int turn = 0; turn <= FAMILIES * NAMES && asker != NONE; turn++) {
                    int wish = bestToAsk(theirs, asker);
                    if (wish == NONE) {
                        break;
                    }
                    asked[asker] |= 1 << wish;
                    int rival = had[wish];
                    if (likesMore(!theirs, wish, asker, rival)) {
                        has[asker] = wish;
                        had[wish] = asker;
                        if (rival != NONE) {
                            has[rival] = NONE;
                        }
                        asker = rival;
                    }
                }
            }
        }

        private int bestToAsk(boolean theirs, int asker) {
            int others = theirs ? Math.min(valley.water.names, NAMES) : Math.min(valley.water.families, FAMILIES);
            int wish = NONE;
            for (int other = 0; other < others; other++) {
                boolean wanted = theirs ? isWanted(asker, other) : isWanted(other, asker);
                if (wanted && !hasBit(asked[asker], other) && likesMore(theirs, asker, other, wish)) {
                    wish = other;
                }
            }
            return wish;
        }

        int hasOf(int family) {
            return family >= 0 && family < FAMILIES ? familyHas[family] : NONE;
        }

        /** No STABLE way gives a FAMILY more than its best or less than its worst, so only those between are tried. */
        int countStable() {
            settle(true);
            System.arraycopy(familyHas, 0, best, 0, FAMILIES);
            settle(false);
            System.arraycopy(familyHas, 0, worst, 0, FAMILIES);
            Arrays.fill(way, NONE);
            return countFrom(0, 0);
        }

        private int countFrom(int family, int taken) {
            if (family >= valley.water.families || family >= FAMILIES) {
                return countRather(way) == 0 ? 1 : 0;
            }
            if (best[family] == NONE || worst[family] == NONE) {
                return countFrom(family + 1, taken);
            }
            int ways = 0;
            for (int name = 0; name < valley.water.names && name < NAMES; name++) {
                boolean between = !likesMore(true, family, name, best[family])
                    && !likesMore(true, family, worst[family], name);
                if (between && !hasBit(taken, name)) {
                    way[family] = name;
                    ways += countFrom(family + 1, taken | 1 << name);
                }
            }
            return ways;
        }
    }

    /** How likely a NAME passes the STONES between two CELLS unbroken, with some of them cleared. */
    private static final class Passage {
        final Judge judge;
        /** STONES at which the NAME could break (bits), and of ten how often it doesn't. */
        int stones;
        final int[] safe = new int[CELLS];

        Passage(Judge judge) {
            this.judge = judge;
        }

        void look(Text ruling, Water water, int name, int from, int to) {
            stones = 0;
            if (name < 0 || name >= NAMES || water.size[name] <= 1 || from < 0) {
                return;
            }
            for (int cell = from + 1; cell <= to && cell < CELLS; cell++) {
                if (hasBit(water.stones, cell)) {
                    stones |= 1 << cell;
                    safe[cell] = 10 - judge.askBreaks(ruling, water, name, cell);
                }
            }
        }

        long upperWithout(int cleared) {
            long upper = 1;
            for (int cell = 0; cell < CELLS; cell++) {
                if (hasBit(stones & ~cleared, cell)) {
                    upper *= safe[cell];
                }
            }
            return upper;
        }

        long lowerWithout(int cleared) {
            long lower = 1;
            for (int left = Integer.bitCount(stones & ~cleared); left > 0; left--) {
                lower *= 10;
            }
            return lower;
        }

        /** Looks at the sets of these STONES from the lowest on: of like ones the first stays. */
        int fewestToClear(int odds) {
            int fewest = stones;
            int set = 0;
            for (int turn = 0; turn < 1 << CELLS && set != stones; turn++) {
                boolean fewer = Integer.bitCount(set) < Integer.bitCount(fewest);
                if (fewer && upperWithout(set) * 10 >= lowerWithout(set) * odds) {
                    fewest = set;
                }
                set = set - stones & stones;
            }
            return fewest;
        }
    }

    /** HALVES that join to NAMES. */
    private static final class Joining {
        final Valley valley;
        /** The NAME that a pair joins to, or NONE, at HALVES times the one and the other one. */
        final int[] joint = new int[HALVES * HALVES];
        /** How many pairs a set of HALVES has at the most. */
        final int[] most = new int[1 << HALVES];
        final int[] pairs = new int[HALVES / 2];
        int count;

        Joining(Valley valley) {
            this.valley = valley;
        }

        /** A pair is taken if the rest can still make up the most: so the lowest pairs come first. */
        void join() {
            int halves = Math.min(valley.halfCount, HALVES);
            findJoints(halves);
            findMost(halves);
            count = 0;
            int free = (1 << halves) - 1;
            for (int one = 0; one < halves; one++) {
                for (int other = 0; other < halves; other++) {
                    int both = 1 << one | 1 << other;
                    int name = joint[one * HALVES + other];
                    if (name != NONE && (free & both) == both && most[free & ~both] + 1 == most[free]
                        && count < pairs.length) {
                        pairs[count] = 100 * one + 10 * other + name;
                        count++;
                        free &= ~both;
                    }
                }
            }
        }

        private void findJoints(int halves) {
            for (int one = 0; one < halves; one++) {
                for (int other = 0; other < halves; other++) {
                    joint[one * HALVES + other] = one == other ? NONE : jointOf(valley.halves[one], valley.halves[other]);
                }
            }
        }

        private int jointOf(int one, int other) {
            long joined = one;
            for (int shifted = countSounds(other); shifted > 0; shifted--) {
                joined *= 10;
            }
            joined += other;
            for (int name = 0; name < valley.water.names && name < NAMES; name++) {
                if (valley.sounds[name] == joined) {
                    return name;
                }
            }
            return NONE;
        }

        private void findMost(int halves) {
            most[0] = 0;
            for (int set = 1; set < 1 << halves; set++) {
                int one = Integer.numberOfTrailingZeros(set);
                int without = set & ~(1 << one);
                int found = most[without];
                for (int other = one + 1; other < halves; other++) {
                    boolean joins = joint[one * HALVES + other] != NONE || joint[other * HALVES + one] != NONE;
                    if (joins && hasBit(without, other)) {
                        found = Math.max(found, most[without & ~(1 << other)] + 1);
                    }
                }
                most[set] = found;
            }
        }
    }

    /** The power of FAMILIES by their NETS. */
    private static final class Nets {
        final Valley valley;

        Nets(Valley valley) {
            this.valley = valley;
        }

        boolean reachesQuota(int set) {
            return sumOf(set) >= valley.quota;
        }

        /** In how many orders the FAMILY is the one with which THE QUOTA is reached. */
        int countPivots(int family) {
            int families = Math.min(valley.water.families, FAMILIES);
            int orders = 0;
            if (family < 0 || family >= families) {
                return orders;
            }
            for (int ahead = 0; ahead < 1 << families; ahead++) {
                if (!hasBit(ahead, family) && !reachesQuota(ahead) && reachesQuota(ahead | 1 << family)) {
                    int before = Integer.bitCount(ahead);
                    orders += before < families ? FACTORIALS[before] * FACTORIALS[families - 1 - before] : 0;
                }
            }
            return orders;
        }

        private int sumOf(int set) {
            int sum = 0;
            for (int family = 0; family < valley.water.families && family < FAMILIES; family++) {
                if (hasBit(set, family)) {
                    sum += valley.net[family];
                }
            }
            return sum;
        }
    }
}
