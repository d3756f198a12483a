import java.util.ArrayDeque;
import java.util.ArrayList;
import java.util.Arrays;
import java.util.Collections;
import java.util.Comparator;
import java.util.Deque;
import java.util.List;
import java.util.Set;
import java.util.TreeSet;

/**
 * The document once more, written for plainness alone: whole copies for steps and the image, a tree for laws,
 * all ways, all orders and all sets tried. ModelTest holds NamesInMelt against it.
 */
final class Model {
    static final class Name {
        int sounds;
        int layer;
        int size;
        int place = -1;

        Name copy() {
            Name n = new Name();
            n.sounds = sounds;
            n.layer = layer;
            n.size = size;
            n.place = place;
            return n;
        }

        String digits() {
            return Integer.toString(sounds);
        }
    }

    static final class Family {
        int net;
        int told;
        int cell;

        Family copy() {
            Family f = new Family();
            f.net = net;
            f.told = told;
            f.cell = cell;
            return f;
        }
    }

    static final class State {
        List<Name> names = new ArrayList<>();
        List<Family> families = new ArrayList<>();
        TreeSet<Integer> stones = new TreeSet<>();
        TreeSet<Integer> eddies = new TreeSet<>();
        int warm;
        int hour;
        int x = 307;
        List<int[]> book = new ArrayList<>();
        List<State> steps = new ArrayList<>();
        List<Script> texts = new ArrayList<>();
        int ruling = -1;
        int[][] want = new int[5][6];
        int[][] favour = new int[6][5];
        int[] given = {-1, -1, -1, -1, -1};
        List<Integer> halves = new ArrayList<>();
        List<int[]> said = new ArrayList<>();
        int quota = 10;

        State copy(boolean withSteps) {
            State s = new State();
            for (Name n : names) {
                s.names.add(n.copy());
            }
            for (Family f : families) {
                s.families.add(f.copy());
            }
            s.stones.addAll(stones);
            s.eddies.addAll(eddies);
            s.warm = warm;
            s.hour = hour;
            s.x = x;
            s.book.addAll(book);
            if (withSteps) {
                s.steps.addAll(steps);
            }
            s.texts.addAll(texts);
            s.ruling = ruling;
            for (int i = 0; i < 5; i++) {
                s.want[i] = want[i].clone();
            }
            for (int i = 0; i < 6; i++) {
                s.favour[i] = favour[i].clone();
            }
            s.given = given.clone();
            s.halves.addAll(halves);
            s.said.addAll(said);
            s.quota = quota;
            return s;
        }
    }

    // ---- the language

    static final class Env {
        State s;
        int name;
        int cell;
        int family;
    }

    interface Sum {
        long of(Env e);
    }

    interface Ask {
        boolean of(Env e);
    }

    static final class Fault extends RuntimeException {
        final int kind;
        final int place;

        Fault(int kind, int place) {
            super(null, null, false, false);
            this.kind = kind;
            this.place = place;
        }
    }

    static final class Script {
        List<String> kinds = new ArrayList<>();
        List<int[]> args = new ArrayList<>();
        Sum melts;
        Sum breaks;
        Sum claims;
    }

    static final class Token {
        String sort;
        String chars;
        int place;

        boolean is(String s) {
            return !sort.equals("end") && !sort.equals("bad") && chars.equals(s);
        }
    }

    static long clamp(long v) {
        return v > 1000000 ? 1000000 : v < -1000000 ? -1000000 : v;
    }

    static final class Parser {
        final List<Token> tokens = new ArrayList<>();
        final Deque<String> open = new ArrayDeque<>();
        final Script script = new Script();
        int i;
        String law;

        Parser(String tape) {
            java.util.regex.Matcher m = java.util.regex.Pattern
                .compile("[ \\n]+|([a-zA-Z]+)|([0-9]+)|(<=|>=|[<>=#+\\-*/();])|([\\s\\S])").matcher(tape);
            while (m.find()) {
                for (int g = 1; g <= 4; g++) {
                    if (m.group(g) != null) {
                        put(new String[] {"", "word", "number", "sign", "bad"}[g], m.group(g), m.start());
                    }
                }
            }
            put("end", "", tape.length());
        }

        void put(String sort, String chars, int place) {
            Token t = new Token();
            t.sort = sort;
            t.chars = chars;
            t.place = place;
            tokens.add(t);
        }

        Token look() {
            return tokens.get(i);
        }

        Fault fault(int kind) {
            return new Fault(kind, look().place);
        }

        void need(String s) {
            if (!look().is(s)) {
                throw fault(1);
            }
            i++;
        }

        java.math.BigInteger value() {
            if (!look().sort.equals("number")) {
                throw fault(1);
            }
            return new java.math.BigInteger(look().chars);
        }

        int number(int low, int high) {
            java.math.BigInteger v = value();
            if (v.compareTo(java.math.BigInteger.valueOf(low)) < 0
                || v.compareTo(java.math.BigInteger.valueOf(high)) > 0) {
                throw fault(2);
            }
            i++;
            return v.intValue();
        }

        Script parse() {
            while (!look().sort.equals("end")) {
                clause();
            }
            return script;
        }

        void clause() {
            String w = look().sort.equals("word") ? look().chars : "";
            List<String> firsts = Arrays.asList("melts", "breaks", "claims", "name", "family", "call", "lay", "take",
                "stand", "sink", "hour");
            if (!firsts.contains(w)) {
                throw fault(1);
            }
            if (firsts.indexOf(w) < 3 && script.kinds.contains(w)) {
                throw fault(4);
            }
            if (script.kinds.size() == 24) {
                throw fault(6);
            }
            i++;
            int[] args = new int[2];
            if (firsts.indexOf(w) < 3) {
                law = w;
                Sum s = sum();
                if (w.equals("melts")) {
                    script.melts = s;
                } else if (w.equals("breaks")) {
                    script.breaks = s;
                } else {
                    script.claims = s;
                }
            } else if (w.equals("name")) {
                int at = i;
                args[0] = number(1, 9999);
                if (Integer.toString(args[0]).contains("0")) {
                    i = at;
                    throw fault(7);
                }
                need("in");
                args[1] = number(0, 9);
            } else if (w.equals("family")) {
                args[0] = number(1, 9);
                need("at");
                args[1] = number(0, 9);
            } else if (w.equals("stand")) {
                args[0] = number(0, 4);
                need("at");
                args[1] = number(0, 9);
            } else if (w.equals("call") || w.equals("sink")) {
                args[0] = number(0, 5);
            } else if (w.equals("hour")) {
                args[0] = number(1, 60);
            } else {
                args[0] = number(0, 9);
            }
            need(";");
            script.kinds.add(w);
            script.args.add(args);
        }

        Sum sum() {
            Sum left = product();
            while (look().is("+") || look().is("-")) {
                boolean plus = look().is("+");
                i++;
                Sum a = left;
                Sum b = product();
                left = e -> clamp(plus ? a.of(e) + b.of(e) : a.of(e) - b.of(e));
            }
            return left;
        }

        Sum product() {
            Sum left = one();
            while (look().is("*") || look().is("/")) {
                boolean times = look().is("*");
                i++;
                Sum a = left;
                Sum b = one();
                left = e -> {
                    long p = a.of(e);
                    long q = b.of(e);
                    return clamp(times ? p * q : q == 0 ? 0 : p / q);
                };
            }
            return left;
        }

        void push() {
            if (open.size() == 8) {
                throw fault(3);
            }
            open.push(look().chars);
            i++;
        }

        Sum one() {
            Token t = look();
            if (t.sort.equals("number")) {
                long v = number(0, 9999);
                return e -> v;
            }
            if (t.is("(")) {
                push();
                Sum s = sum();
                need(")");
                open.pop();
                return s;
            }
            if (t.is("-")) {
                push();
                Sum s = one();
                open.pop();
                return e -> -s.of(e);
            }
            if (t.is("ice")) {
                push();
                Sum s = one();
                open.pop();
                return e -> {
                    long v = s.of(e);
                    return v >= 0 && v < e.s.names.size() && e.s.names.get((int) v).place == -1 ? 1 : 0;
                };
            }
            if (t.is("digit")) {
                push();
                Sum which = one();
                need("of");
                Sum whole = one();
                open.pop();
                return e -> digit(which.of(e), whole.of(e));
            }
            if (t.is("if")) {
                push();
                Ask ask = either();
                need("then");
                Sum yes = sum();
                need("else");
                Sum no = sum();
                need("end");
                open.pop();
                return e -> ask.of(e) ? yes.of(e) : no.of(e);
            }
            return known();
        }

        static long digit(long which, long whole) {
            String digits = new StringBuilder(Long.toString(Math.abs(whole))).reverse().toString();
            return which < 0 || which >= digits.length() ? 0 : digits.charAt((int) which) - '0';
        }

        Sum known() {
            String w = look().sort.equals("word") ? look().chars : "";
            boolean always = Arrays.asList("hour", "warm", "layer", "size", "who", "sounds").contains(w);
            boolean some = Arrays.asList("cell", "net", "house").contains(w);
            if (!always && !some) {
                throw fault(1);
            }
            boolean fits = always || law.equals("claims") || law.equals("breaks") && w.equals("cell");
            if (!fits) {
                throw fault(5);
            }
            i++;
            return e -> {
                Name n = e.s.names.get(e.name);
                switch (w) {
                    case "hour":
                        return e.s.hour;
                    case "warm":
                        return e.s.warm;
                    case "layer":
                        return n.layer;
                    case "size":
                        return n.size;
                    case "who":
                        return e.name;
                    case "sounds":
                        return n.sounds;
                    case "cell":
                        return e.cell;
                    case "net":
                        return e.s.families.get(e.family).net;
                    default:
                        return e.family;
                }
            };
        }

        Ask either() {
            Ask left = both();
            while (look().is("or")) {
                i++;
                Ask a = left;
                Ask b = both();
                left = e -> a.of(e) | b.of(e);
            }
            return left;
        }

        Ask both() {
            Ask left = ask();
            while (look().is("and")) {
                i++;
                Ask a = left;
                Ask b = ask();
                left = e -> a.of(e) & b.of(e);
            }
            return left;
        }

        Ask ask() {
            if (look().is("not")) {
                push();
                Ask a = ask();
                open.pop();
                return e -> !a.of(e);
            }
            Sum a = sum();
            String sign = look().sort.equals("sign") ? look().chars : "";
            if (!Arrays.asList("<", "<=", ">", ">=", "=", "#").contains(sign)) {
                throw fault(1);
            }
            i++;
            Sum b = sum();
            return e -> {
                int c = Long.compare(a.of(e), b.of(e));
                switch (sign) {
                    case "<":
                        return c < 0;
                    case "<=":
                        return c <= 0;
                    case ">":
                        return c > 0;
                    case ">=":
                        return c >= 0;
                    case "=":
                        return c == 0;
                    default:
                        return c != 0;
                }
            };
        }
    }

    // ---- the state and the hour

    private State s = new State();
    private State kept = new State();
    private String tape = "";
    private int[] latest;

    private static boolean in(int v, int low, int high) {
        return v >= low && v <= high;
    }

    private boolean isName(int n) {
        return in(n, 0, s.names.size() - 1);
    }

    private boolean isFamily(int f) {
        return in(f, 0, s.families.size() - 1);
    }

    private static int bits(Iterable<Integer> set) {
        int b = 0;
        for (int v : set) {
            b |= 1 << v;
        }
        return b;
    }

    private Script ruling() {
        return s.ruling < 0 ? null : s.texts.get(s.ruling);
    }

    private static long ask(Sum law, long without, State st, int name, int cell, int family) {
        if (law == null) {
            return without;
        }
        Env e = new Env();
        e.s = st;
        e.name = name;
        e.cell = cell;
        e.family = family;
        return law.of(e);
    }

    private static int melts(Script t, State st, int n) {
        long v = ask(t == null ? null : t.melts, st.warm - st.names.get(n).layer, st, n, 0, 0);
        return (int) Math.max(-99, Math.min(99, v));
    }

    private static int breaks(Script t, State st, int n, int cell) {
        return (int) Math.max(0, Math.min(10, ask(t == null ? null : t.breaks, 3, st, n, cell, 0)));
    }

    private static int claims(Script t, State st, int n, int cell, int f) {
        return (int) Math.max(-99, Math.min(99, ask(t == null ? null : t.claims, 1, st, n, cell, f)));
    }

    private static int anew(State st) {
        int old = st.x;
        st.x = (st.x * 563 + 433) % 30773;
        return old;
    }

    private static void write(State st, int name, int what, int where) {
        st.book.add(new int[] {st.hour, name, what, where});
        if (st.book.size() > 30) {
            st.book.remove(0);
        }
    }

    private static int pass(State st, Script t) {
        int claimed = 0;
        st.warm = anew(st) % 10;
        nextName:
        for (int i = 0; i < st.names.size(); i++) {
            Name n = st.names.get(i);
            if (n.place == -1 && melts(t, st, i) > 0) {
                n.place = 0;
                continue;
            }
            if (n.place < 0 || n.place > 9) {
                continue;
            }
            boolean went = true;
            if (st.eddies.contains(n.place)) {
                went = anew(st) % 2 != 0;
            }
            if (went) {
                n.place += st.warm > 4 ? 2 : 1;
                if (n.place >= 9) {
                    n.place = 10;
                    write(st, i, 1, 9);
                    continue;
                }
                if (st.stones.contains(n.place) && n.size > 1) {
                    int drawn = anew(st) % 10;
                    if (drawn < breaks(t, st, i, n.place)) {
                        n.size = n.size - n.size / 2;
                        write(st, i, 2, n.place);
                    }
                }
            }
            for (int f = 0; f < st.families.size(); f++) {
                Family fam = st.families.get(f);
                if (fam.cell == n.place && fam.net >= n.size && claims(t, st, i, n.place, f) > 0) {
                    n.place = 20 + f;
                    write(st, i, 0, f);
                    claimed++;
                    continue nextName;
                }
            }
        }
        st.hour++;
        return claimed;
    }

    private void step() {
        s.steps.add(s.copy(false));
        if (s.steps.size() > 30) {
            s.steps.remove(0);
        }
    }

    // ---- the face

    static boolean isSounds(int v) {
        return Integer.toString(v).matches("[1-9]{1,5}");
    }

    public int name(int sounds, int layer) {
        if (!isSounds(sounds) || !in(layer, 0, 9) || s.names.size() == 6) {
            return -1;
        }
        Name n = new Name();
        n.sounds = sounds;
        n.layer = layer;
        n.size = n.digits().length();
        s.names.add(n);
        return s.names.size() - 1;
    }

    public int family(int net, int cell) {
        if (!in(net, 1, 9) || !in(cell, 0, 9) || s.families.size() == 5) {
            return -1;
        }
        Family f = new Family();
        f.net = net;
        f.told = cell;
        f.cell = cell;
        s.families.add(f);
        return s.families.size() - 1;
    }

    public boolean eddy(int cell, boolean is) {
        if (!in(cell, 0, 9)) {
            return false;
        }
        if (is) {
            s.eddies.add(cell);
        } else {
            s.eddies.remove(cell);
        }
        return true;
    }

    public int feed(int a, int b, int c, int d, int e) {
        if (tape.length() > 280) {
            return -1;
        }
        StringBuilder more = new StringBuilder(tape);
        for (byte one : java.nio.ByteBuffer.allocate(20).putInt(a).putInt(b).putInt(c).putInt(d).putInt(e).array()) {
            more.append((char) (one & 255));
        }
        tape = more.toString();
        return tape.length();
    }

    public int end(int n) {
        if (!in(n, 0, tape.length())) {
            return -1;
        }
        tape = tape.substring(0, n);
        return n;
    }

    public int text() {
        if (s.texts.size() == 4) {
            return -1;
        }
        String read = tape;
        tape = "";
        try {
            Script script = new Parser(read).parse();
            latest = new int[] {0, -1};
            s.texts.add(script);
            return s.texts.size() - 1;
        } catch (Fault f) {
            latest = new int[] {f.kind, f.place};
            return -1;
        }
    }

    public int fault(int what) {
        return latest == null || !in(what, 0, 1) ? -1 : latest[what];
    }

    public boolean by(int text) {
        if (!in(text, -1, s.texts.size() - 1)) {
            return false;
        }
        s.ruling = text;
        return true;
    }

    public boolean call(int name) {
        if (!isName(name) || s.names.get(name).place != -1) {
            return false;
        }
        step();
        s.names.get(name).place = 0;
        return true;
    }

    public boolean stone(int cell, boolean lay) {
        if (!in(cell, 0, 9) || s.stones.contains(cell) == lay) {
            return false;
        }
        step();
        if (lay) {
            s.stones.add(cell);
        } else {
            s.stones.remove(cell);
        }
        return true;
    }

    public boolean stand(int family, int cell) {
        if (!isFamily(family) || !in(cell, 0, 9) || s.families.get(family).cell == cell) {
            return false;
        }
        step();
        s.families.get(family).cell = cell;
        return true;
    }

    public boolean sink(int name) {
        if (!isName(name) || s.names.get(name).place < 20) {
            return false;
        }
        step();
        s.names.get(name).place = 0;
        return true;
    }

    public int hour(int n) {
        if (!in(n, 1, 60) || s.hour + n > 9999) {
            return -1;
        }
        int claimed = 0;
        for (int i = 0; i < n; i++) {
            step();
            claimed += pass(s, ruling());
        }
        return claimed;
    }

    public int played(int text) {
        if (!in(text, 0, s.texts.size() - 1)) {
            return -2;
        }
        Script t = s.texts.get(text);
        for (int i = 0; i < t.kinds.size(); i++) {
            int[] a = t.args.get(i);
            boolean can = true;
            switch (t.kinds.get(i)) {
                case "name":
                    can = name(a[0], a[1]) >= 0;
                    break;
                case "family":
                    can = family(a[0], a[1]) >= 0;
                    break;
                case "call":
                    can = call(a[0]);
                    break;
                case "lay":
                    can = stone(a[0], true);
                    break;
                case "take":
                    can = stone(a[0], false);
                    break;
                case "stand":
                    can = stand(a[0], a[1]);
                    break;
                case "sink":
                    can = sink(a[0]);
                    break;
                case "hour":
                    for (int h = 0; h < a[0] && can; h++) {
                        can = hour(1) >= 0;
                    }
                    break;
                default:
                    break;
            }
            if (!can) {
                return i;
            }
        }
        return -1;
    }

    public int springs(int seed, int n) {
        if (!in(seed, 0, 9999) || !in(n, 1, 40)) {
            return -1;
        }
        step();
        List<State> before = new ArrayList<>(s.steps);
        s.x = seed * 2 + 307;
        for (int i = 0; i < n; i++) {
            int x = anew(s);
            int name = s.names.isEmpty() ? -1 : x % s.names.size();
            int family = s.families.isEmpty() ? -1 : x % s.families.size();
            switch (x % 7) {
                case 0:
                    call(name);
                    break;
                case 1:
                    stone(x / 7 % 10, true);
                    break;
                case 2:
                    stone(x / 7 % 10, false);
                    break;
                case 3:
                    stand(family, x / 7 % 10);
                    break;
                case 4:
                    sink(name);
                    break;
                default:
                    hour(1);
                    break;
            }
        }
        s.steps = before;
        return s.hour;
    }

    public int undo() {
        if (s.steps.isEmpty()) {
            return -1;
        }
        State old = s.steps.remove(s.steps.size() - 1);
        for (int i = 0; i < s.names.size(); i++) {
            Name n = s.names.get(i);
            if (i < old.names.size()) {
                n.place = old.names.get(i).place;
                n.size = old.names.get(i).size;
            } else {
                n.place = -1;
                n.size = n.digits().length();
            }
        }
        for (int i = 0; i < s.families.size(); i++) {
            Family f = s.families.get(i);
            f.cell = i < old.families.size() ? old.families.get(i).cell : f.told;
        }
        s.stones = new TreeSet<>(old.stones);
        s.warm = old.warm;
        s.hour = old.hour;
        s.x = old.x;
        s.book = new ArrayList<>(old.book);
        return s.steps.size();
    }

    public int of(int name, int what) {
        if (!isName(name) || !in(what, 0, 4)) {
            return -2;
        }
        Name n = s.names.get(name);
        return new int[] {n.sounds, n.layer, n.size, n.place, Integer.parseInt(n.digits().substring(0, n.size))}[what];
    }

    private Set<Integer> namesAt(int place) {
        Set<Integer> set = new TreeSet<>();
        for (int i = 0; i < s.names.size(); i++) {
            if (s.names.get(i).place == place) {
                set.add(i);
            }
        }
        return set;
    }

    public int ofFamily(int family, int what) {
        if (!isFamily(family) || !in(what, 0, 2)) {
            return -1;
        }
        Family f = s.families.get(family);
        return new int[] {f.net, f.cell, bits(namesAt(20 + family))}[what];
    }

    public int law(int name, int family, int what) {
        if (!isName(name) || !in(what, 0, 2) || what == 2 && !isFamily(family)) {
            return -100;
        }
        int place = s.names.get(name).place;
        int cell = in(place, 0, 9) ? place : 0;
        return what == 0 ? melts(ruling(), s, name)
            : what == 1 ? breaks(ruling(), s, name, cell) : claims(ruling(), s, name, cell, family);
    }

    public int is(int what) {
        return in(what, 0, 4) ? new int[] {s.hour, s.x, s.warm, bits(s.stones), bits(s.eddies)}[what] : -2;
    }

    public int book(int i, int what) {
        if (i == -1) {
            return s.book.size();
        }
        return in(i, 0, s.book.size() - 1) && in(what, 0, 3) ? s.book.get(i)[what] : -2;
    }

    public int foretold(int n, int name, int what) {
        if (!in(n, 1, 60) || !isName(name) || !in(what, 0, 1)) {
            return -2;
        }
        State then = s.copy(false);
        for (int i = 0; i < n && then.hour < 9999; i++) {
            pass(then, ruling());
        }
        return what == 0 ? then.names.get(name).place : then.names.get(name).size;
    }

    public boolean wants(int family, int name, int want) {
        if (!in(family, 0, 4) || !in(name, 0, 5) || !in(want, 0, 99)) {
            return false;
        }
        s.want[family][name] = want;
        return true;
    }

    public boolean favours(int name, int family, int favour) {
        if (!in(family, 0, 4) || !in(name, 0, 5) || !in(favour, 0, 99)) {
            return false;
        }
        s.favour[name][family] = favour;
        return true;
    }

    /** What one likes, the most liked first. */
    private List<Integer> liking(int[] numbers, int count) {
        List<Integer> all = new ArrayList<>();
        for (int i = 0; i < count; i++) {
            all.add(i);
        }
        all.sort(Comparator.comparingInt((Integer i) -> -numbers[i]).thenComparingInt(i -> i));
        return all;
    }

    private int rather(int[] way) {
        int pairs = 0;
        for (int f = 0; f < s.families.size(); f++) {
            List<Integer> likes = liking(s.want[f], s.names.size());
            for (int n = 0; n < s.names.size(); n++) {
                int owner = -1;
                for (int g = 0; g < s.families.size(); g++) {
                    if (way[g] == n) {
                        owner = g;
                    }
                }
                List<Integer> likers = liking(s.favour[n], s.families.size());
                boolean theFamily = s.want[f][n] > 0 && (way[f] == -1 || likes.indexOf(n) < likes.indexOf(way[f]));
                boolean theName = owner == -1 || likers.indexOf(f) < likers.indexOf(owner);
                if (theFamily && theName) {
                    pairs++;
                }
            }
        }
        return pairs;
    }

    private void ways(int f, int[] way, List<int[]> out) {
        if (f == s.families.size()) {
            if (rather(way) == 0) {
                out.add(way.clone());
            }
            return;
        }
        for (int n = -1; n < s.names.size(); n++) {
            boolean free = n == -1 || s.want[f][n] > 0;
            for (int g = 0; g < f && n >= 0; g++) {
                free &= way[g] != n;
            }
            if (free) {
                way[f] = n;
                ways(f + 1, way, out);
            }
        }
        way[f] = -1;
    }

    private List<int[]> allStable() {
        List<int[]> out = new ArrayList<>();
        ways(0, new int[] {-1, -1, -1, -1, -1}, out);
        return out;
    }

    public int stable(int family, boolean theirs) {
        if (!isFamily(family)) {
            return -1;
        }
        List<Integer> likes = liking(s.want[family], s.names.size());
        List<Integer> got = new ArrayList<>();
        for (int[] way : allStable()) {
            got.add(way[family]);
        }
        if (got.contains(-1)) {
            return -1;
        }
        got.sort(Comparator.comparingInt(likes::indexOf));
        // The best way for NAMES is the worst one for FAMILIES.
        return theirs ? got.get(0) : got.get(got.size() - 1);
    }

    public int stables() {
        return allStable().size();
    }

    public boolean give(int family, int name) {
        if (!isFamily(family) || name != -1 && !isName(name)) {
            return false;
        }
        for (int g = 0; g < 5; g++) {
            if (name != -1 && g != family && s.given[g] == name) {
                return false;
            }
        }
        s.given[family] = name;
        return true;
    }

    public int rests() {
        return rather(s.given);
    }

    public int gladdest(int family) {
        if (!isFamily(family) || s.names.isEmpty()) {
            return -1;
        }
        int best = liking(s.want[family], s.names.size()).get(0);
        return s.want[family][best] > 0 ? best : -1;
    }

    private long[] odds(int name, int from, int to, Set<Integer> stones) {
        java.math.BigInteger up = java.math.BigInteger.ONE;
        java.math.BigInteger low = java.math.BigInteger.ONE;
        for (int c = from + 1; c <= to; c++) {
            if (stones.contains(c) && s.names.get(name).size > 1) {
                up = up.multiply(java.math.BigInteger.valueOf(10 - breaks(ruling(), s, name, c)));
                low = low.multiply(java.math.BigInteger.TEN);
            }
        }
        java.math.BigInteger g = up.gcd(low);
        return new long[] {up.divide(g).longValueExact(), low.divide(g).longValueExact()};
    }

    public long whole(int name, int from, int to, boolean low) {
        if (!isName(name) || !in(from, 0, 9) || !in(to, from, 9)) {
            return -1;
        }
        return odds(name, from, to, s.stones)[low ? 1 : 0];
    }

    public int clear(int name, int from, int to, int odds) {
        if (!isName(name) || !in(from, 0, 9) || !in(to, from, 9) || !in(odds, 1, 10)) {
            return -1;
        }
        int best = -1;
        for (int set = 0; set < 1024; set++) {
            if ((set & ~bits(s.stones)) != 0 || best >= 0 && Integer.bitCount(set) >= Integer.bitCount(best)) {
                continue;
            }
            Set<Integer> left = new TreeSet<>(s.stones);
            for (int c = 0; c < 10; c++) {
                if ((set >> c & 1) == 1) {
                    left.remove(c);
                }
            }
            long[] p = odds(name, from, to, left);
            if (p[0] * 10 >= p[1] * odds) {
                best = set;
            }
        }
        return best;
    }

    public int half(int sounds) {
        if (sounds == -1) {
            s.halves.clear();
            return 0;
        }
        if (!isSounds(sounds) || s.halves.size() == 8) {
            return -2;
        }
        s.halves.add(sounds);
        return s.halves.size();
    }

    private int joint(int a, int b) {
        String joined = s.halves.get(a) + "" + s.halves.get(b);
        for (int n = 0; n < s.names.size(); n++) {
            if (s.names.get(n).digits().equals(joined)) {
                return n;
            }
        }
        return -1;
    }

    private List<Integer> bestJoined;

    private void joinFrom(int at, Set<Integer> used, List<Integer> pairs) {
        int h = s.halves.size();
        // Sets come in the order of their lowest pairs, so the first of the greatest size stays.
        if (pairs.size() > bestJoined.size()) {
            bestJoined = new ArrayList<>(pairs);
        }
        for (int p = at; p < h * h; p++) {
            int a = p / h;
            int b = p % h;
            if (a != b && !used.contains(a) && !used.contains(b) && joint(a, b) >= 0) {
                used.add(a);
                used.add(b);
                pairs.add(100 * a + 10 * b + joint(a, b));
                joinFrom(p + 1, used, pairs);
                pairs.remove(pairs.size() - 1);
                used.remove(a);
                used.remove(b);
            }
        }
    }

    public int joins(int i) {
        bestJoined = new ArrayList<>();
        joinFrom(0, new TreeSet<>(), new ArrayList<>());
        return i == -1 ? bestJoined.size() : in(i, 0, bestJoined.size() - 1) ? bestJoined.get(i) : -2;
    }

    public int layers(int names) {
        if (!in(names, 0, (1 << s.names.size()) - 1)) {
            return -1;
        }
        Set<Integer> layers = new TreeSet<>();
        for (int n = 0; n < 6; n++) {
            if ((names >> n & 1) == 1) {
                layers.add(s.names.get(n).layer);
            }
        }
        return bits(layers);
    }

    public int rhyme(int a, int b) {
        if (!isName(a) || !isName(b)) {
            return -1;
        }
        String p = s.names.get(a).digits();
        String q = s.names.get(b).digits();
        for (int k = Math.min(p.length(), q.length());; k--) {
            if (p.endsWith(q.substring(q.length() - k))) {
                return k;
            }
        }
    }

    public int kindred(int name) {
        if (!isName(name)) {
            return -1;
        }
        for (int k = 5; k > 0; k--) {
            for (int other = 0; other < s.names.size(); other++) {
                if (other != name && rhyme(name, other) == k) {
                    return other;
                }
            }
        }
        return -1;
    }

    public boolean quota(int nets) {
        if (!in(nets, 1, 99)) {
            return false;
        }
        s.quota = nets;
        return true;
    }

    private void orders(List<Integer> left, int sum, int turned, int[] pivots) {
        if (left.isEmpty()) {
            pivots[5]++;
            if (turned >= 0) {
                pivots[turned]++;
            }
            return;
        }
        for (int i = 0; i < left.size(); i++) {
            List<Integer> rest = new ArrayList<>(left);
            int f = rest.remove(i);
            int more = sum + s.families.get(f).net;
            orders(rest, more, turned < 0 && more >= s.quota ? f : turned, pivots);
        }
    }

    private int[] pivots() {
        List<Integer> all = new ArrayList<>();
        for (int f = 0; f < s.families.size(); f++) {
            all.add(f);
        }
        int[] pivots = new int[6];
        orders(all, 0, -1, pivots);
        return pivots;
    }

    public int power(int family, boolean low) {
        if (!isFamily(family)) {
            return -1;
        }
        int[] p = pivots();
        int g = java.math.BigInteger.valueOf(p[family]).gcd(java.math.BigInteger.valueOf(p[5])).intValue();
        return (low ? p[5] : p[family]) / g;
    }

    public int dummies() {
        int[] p = pivots();
        int b = 0;
        for (int f = 0; f < s.families.size(); f++) {
            b |= p[f] == 0 ? 1 << f : 0;
        }
        return b;
    }

    private List<Integer> winners() {
        List<Integer> out = new ArrayList<>();
        for (int set = 0; set < 1 << s.families.size(); set++) {
            int sum = 0;
            for (int f = 0; f < s.families.size(); f++) {
                sum += (set >> f & 1) * s.families.get(f).net;
            }
            if (sum >= s.quota) {
                out.add(set);
            }
        }
        return out;
    }

    public int veto() {
        int b = (1 << s.families.size()) - 1;
        for (int set : winners()) {
            b &= set;
        }
        return b;
    }

    public int coalitions() {
        return winners().size();
    }

    public int said(int name, int melts) {
        if (name == -1) {
            s.said.clear();
            return 0;
        }
        if (!isName(name) || !in(melts, -99, 99) || s.said.size() == 8) {
            return -2;
        }
        s.said.add(new int[] {name, melts});
        return s.said.size();
    }

    public int whose() {
        int b = 0;
        for (int t = 0; t < s.texts.size(); t++) {
            Script script = s.texts.get(t);
            if (s.said.stream().allMatch(p -> melts(script, s, p[0]) == p[1])) {
                b |= 1 << t;
            }
        }
        return b;
    }

    public int richest() {
        for (int k = 6; k > 0; k--) {
            for (int f = 0; f < s.families.size(); f++) {
                if (namesAt(20 + f).size() == k) {
                    return f;
                }
            }
        }
        return -1;
    }

    public int next() {
        for (int c = 9; c >= 0; c--) {
            if (!namesAt(c).isEmpty()) {
                return Collections.min(namesAt(c));
            }
        }
        return -1;
    }

    public int frozen() {
        return bits(namesAt(-1));
    }

    public int ledger(int what) {
        return in(what, 0, 2) ? (int) s.book.stream().filter(l -> l[2] == what).count() : -2;
    }

    public int image() {
        kept = s.copy(true);
        return s.hour;
    }

    public int back() {
        s = kept.copy(true);
        return s.hour;
    }

    public int about(int what) {
        int[] all = {s.names.size(), s.families.size(), s.texts.size(), s.ruling, s.steps.size(), s.halves.size(),
            s.said.size(), tape.length()};
        return in(what, 0, 7) ? all[what] : -2;
    }
}
