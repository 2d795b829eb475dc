import java.util.ArrayDeque;
import java.util.ArrayList;
import java.util.HashMap;
import java.util.List;
import java.util.Map;
import java.util.TreeMap;
import java.util.function.Predicate;
import java.util.function.ToLongFunction;

/** The document once more, written plainly and without thrift, for ModelTest to hold the class against. */
final class Model {
    static final int NONE = -1;
    static final int SEA = -1;

    static final class Fault extends RuntimeException {
        private static final long serialVersionUID = 1L;
        final int number;

        Fault(int place, int kind) {
            super("FAULT", null, false, false);
            number = 1 + 8 * place + kind;
        }
    }

    record Eel(int pool, int size, int smell, int whose) { }

    record Pot(int pool, int throat, int bait, int keeper) { }

    record Clause(ToLongFunction<View> sum, Predicate<View> test) { }

    record Told(int night, int memory, int pool) { }

    static final class Brook {
        int pools;
        int big;
        final List<Integer> moons = new ArrayList<>();
        final List<Integer> people = new ArrayList<>();
        final List<Eel> eels = new ArrayList<>();
        final List<Pot> pots = new ArrayList<>();

        int round() {
            return moons.isEmpty() ? 1 : moons.size();
        }

        int light(int night) {
            return moons.isEmpty() ? 0 : moons.get(night % moons.size());
        }
    }

    /** All that changes by ACTS; places as promise 7 tells them. */
    static final class State {
        int night;
        List<Eel> eels = new ArrayList<>();
        List<Pot> pots = new ArrayList<>();
        List<Integer> where = new ArrayList<>();

        State copy() {
            State s = new State();
            s.night = night;
            s.eels.addAll(eels);
            s.pots.addAll(pots);
            s.where.addAll(where);
            return s;
        }

        boolean free(int m) {
            return where.get(m) >= 0 && where.get(m) < 20;
        }

        int in(int t) {
            return where.indexOf(20 + t);
        }

        int full() {
            int n = 0;
            for (int w : where) {
                n += w >= 20 && w < 30 ? 1 : 0;
            }
            return n;
        }

        int bits(int place) {
            int bits = 0;
            for (int m = 0; m < where.size(); m++) {
                bits += where.get(m) == place ? 1 << m : 0;
            }
            return bits;
        }
    }

    record View(Brook brook, State s, int memory, int pool, int light) {
        long word(String word) {
            Eel eel = s.eels.get(memory);
            long n = 0;
            switch (word) {
                case "memory": return memory;
                case "pool": return pool;
                case "from": return s.where.get(memory);
                case "size": return eel.size();
                case "smell": return eel.smell();
                case "bait":
                    for (int t = 0; t < s.pots.size(); t++) {
                        Pot pot = s.pots.get(t);
                        n += pot.pool() == pool && s.in(t) < 0 && pot.bait() == eel.smell() ? 1 : 0;
                    }
                    return n;
                case "traps":
                    for (Pot pot : s.pots) {
                        n += pot.pool() == pool ? 1 : 0;
                    }
                    return n;
                case "with":
                    for (int m = 0; m < s.where.size(); m++) {
                        n += m != memory && s.where.get(m) == pool ? 1 : 0;
                    }
                    return n;
                case "light": return light;
                case "next": return brook.light(s.night + 1);
                case "whose": return eel.whose();
                case "night": return s.night;
                default: throw new IllegalStateException(word);
            }
        }
    }

    static final class Reader {
        static final List<String> WORDS = List.of("memory", "pool", "from", "size", "smell", "bait", "traps", "with",
            "light", "next", "whose", "night");
        final String text;
        int at = 0;
        int units = 0;

        Reader(String text) {
            this.text = text;
        }

        char see() {
            while (at < text.length() && text.charAt(at) == ' ') {
                at++;
            }
            return at < text.length() ? text.charAt(at) : '\uffff';
        }

        String run(String signs) {
            see();
            int to = at;
            while (to < text.length() && signs.indexOf(text.charAt(to)) >= 0) {
                to++;
            }
            return text.substring(at, to);
        }

        String word() {
            return run("abcdefghijklmnopqrstuvwxyz");
        }

        boolean eat(String what) {
            see();
            boolean here = Character.isLetter(what.charAt(0)) ? word().equals(what) : text.startsWith(what, at);
            if (here) {
                at += what.length();
            }
            return here;
        }

        void check(boolean good, int kind) {
            if (!good) {
                throw new Fault(at, kind);
            }
        }

        int number(int least, int most) {
            String digits = run("0123456789");
            check(!digits.isEmpty(), 0);
            check(digits.length() <= 5, 1);
            int value = Integer.parseInt(digits);
            check(value >= least && value <= most, 1);
            at += digits.length();
            return value;
        }

        boolean more() {
            if (see() == '\uffff') {
                return false;
            }
            check(eat(";"), 0);
            return true;
        }

        Brook brook() {
            Brook b = new Brook();
            int clauses = 0;
            do {
                String word = word();
                check(List.of("river", "moon", "person", "memory", "trap").contains(word), 0);
                check(word.equals("river") == (clauses == 0) && clauses < 40, 4);
                clauses++;
                check(!word.equals("moon") || b.moons.size() < 12, 4);
                check(!word.equals("person") || b.people.size() < 4, 4);
                check(!word.equals("memory") || b.eels.size() < 6, 4);
                check(!word.equals("trap") || b.pots.size() < 4, 4);
                at += word.length();
                int people = b.people.size() - 1;
                switch (word) {
                    case "river" -> {
                        b.pools = number(2, 12);
                        b.big = number(1, 9);
                    }
                    case "moon" -> b.moons.add(number(0, 9));
                    case "person" -> b.people.add(number(1, 9));
                    case "memory" -> b.eels.add(new Eel(number(0, b.pools - 1), number(1, 9), number(0, 7), number(0, people)));
                    default -> b.pots.add(new Pot(number(0, b.pools - 1), number(1, 9), number(0, 7), number(0, people)));
                }
            } while (more());
            return b;
        }

        List<Clause> rule() {
            List<Clause> clauses = new ArrayList<>();
            do {
                check(word().equals("go"), 0);
                check(clauses.size() < 12, 4);
                eat("go");
                ToLongFunction<View> sum = sum();
                clauses.add(new Clause(sum, eat("if") ? test(0) : v -> true));
            } while (more());
            return clauses;
        }

        Predicate<View> test(int deep) {
            Predicate<View> test = part(deep);
            while (eat("or")) {
                test = test.or(part(deep));
            }
            return test;
        }

        Predicate<View> part(int deep) {
            Predicate<View> part = fact(deep);
            while (eat("and")) {
                part = part.and(fact(deep));
            }
            return part;
        }

        Predicate<View> fact(int deep) {
            boolean opens = see() == '[';
            if (opens || word().equals("not")) {
                check(deep < 10, 2);
                if (eat("not")) {
                    return fact(deep + 1).negate();
                }
                eat("[");
                Predicate<View> test = test(deep + 1);
                see();
                check(eat("]"), 0);
                return test;
            }
            ToLongFunction<View> left = sum();
            for (String sign : List.of("<=", ">=", "<", "=", ">")) {
                see();
                if (text.startsWith(sign, at)) {
                    check(++units <= 60, 3);
                    eat(sign);
                    ToLongFunction<View> right = sum();
                    return v -> compared(sign, Long.compare(left.applyAsLong(v), right.applyAsLong(v)));
                }
            }
            throw new Fault(at, 0);
        }

        static boolean compared(String sign, int c) {
            return c < 0 && sign.contains("<") || c == 0 && sign.contains("=") || c > 0 && sign.contains(">");
        }

        ToLongFunction<View> sum() {
            ToLongFunction<View> sum = term();
            while (see() == '+' || see() == '-') {
                boolean plus = text.charAt(at++) == '+';
                ToLongFunction<View> left = sum;
                ToLongFunction<View> right = term();
                sum = v -> plus ? left.applyAsLong(v) + right.applyAsLong(v) : left.applyAsLong(v) - right.applyAsLong(v);
            }
            return sum;
        }

        ToLongFunction<View> term() {
            ToLongFunction<View> term = value();
            while (see() == '*' || see() == '/' || see() == '%') {
                char sign = text.charAt(at++);
                ToLongFunction<View> left = term;
                ToLongFunction<View> right = value();
                term = v -> {
                    long a = left.applyAsLong(v);
                    long b = right.applyAsLong(v);
                    return sign == '*' ? a * b : b == 0 ? 0 : sign == '/' ? a / b : a % b;
                };
            }
            return term;
        }

        ToLongFunction<View> value() {
            see();
            int first = at;
            ToLongFunction<View> value;
            if (run("0123456789").isEmpty()) {
                String word = word();
                check(WORDS.contains(word), 0);
                at += word.length();
                value = v -> v.word(word);
            } else {
                long number = number(0, 99999);
                value = v -> number;
            }
            if (++units > 60) {
                throw new Fault(first, 3);
            }
            return value;
        }
    }

    record Image(Brook brook, State s, List<Told> notes, int force, long x) { }

    StringBuilder tape = new StringBuilder();
    Brook brook;
    State s = new State();
    List<List<Clause>> rules = new ArrayList<>();
    int force = NONE;
    long x = 0;
    List<Told> notes = new ArrayList<>();
    ArrayDeque<State> acts = new ArrayDeque<>();
    Map<Integer, Image> images = new HashMap<>();

    static State begin(Brook b) {
        State s = new State();
        if (b != null) {
            s.eels.addAll(b.eels);
            s.pots.addAll(b.pots);
            for (Eel e : b.eels) {
                s.where.add(e.pool());
            }
        }
        return s;
    }

    List<Clause> ruling() {
        return force == NONE ? null : rules.get(force);
    }

    State after(State from, List<Clause> rule, int n) {
        State t = from;
        for (int i = 0; i < n; i++) {
            t = passed(t, rule, brook.light(t.night));
        }
        return t;
    }

    State passed(State old, List<Clause> rule, int light) {
        State t = old.copy();
        t.night++;
        int last = brook.pools - 1;
        for (int m = 0; m < t.eels.size(); m++) {
            if (!old.free(m)) {
                continue;
            }
            int from = old.where.get(m);
            int to = from;
            if (rule == null) {
                to = from == last ? last : from + 1;
            } else {
                TreeMap<Long, Integer> best = new TreeMap<>();
                for (int p = from + 1; p >= from - 1; p--) {
                    if (p >= 0 && p <= last) {
                        best.put(worth(rule, new View(brook, old, m, p, light)), p);
                    }
                }
                if (best.lastKey() > 0) {
                    to = best.lastEntry().getValue();
                }
            }
            t.where.set(m, from == last && to == last && t.eels.get(m).size() >= brook.big ? SEA : to);
        }
        for (int p = 0; p < t.pots.size(); p++) {
            for (int m = 0; m < t.eels.size(); m++) {
                Pot pot = t.pots.get(p);
                Eel eel = t.eels.get(m);
                if (t.in(p) < 0 && t.where.get(m) == pot.pool() && eel.smell() == pot.bait() && eel.size() <= pot.throat()) {
                    t.where.set(m, 20 + p);
                }
            }
        }
        return t;
    }

    static long worth(List<Clause> rule, View v) {
        for (Clause c : rule) {
            if (c.test().test(v)) {
                return c.sum().applyAsLong(v);
            }
        }
        return 0;
    }

    static boolean in(int n, int least, int most) {
        return least <= n && n <= most;
    }

    boolean mem(int m) {
        return in(m, 0, s.eels.size() - 1);
    }

    boolean pot(int t) {
        return in(t, 0, s.pots.size() - 1);
    }

    boolean empty(int t) {
        return pot(t) && s.in(t) < 0;
    }

    boolean per(int p) {
        return brook != null && in(p, 0, brook.people.size() - 1);
    }

    boolean pool(int p) {
        return brook != null && in(p, 0, brook.pools - 1);
    }

    void act(State next) {
        acts.addLast(s);
        if (acts.size() > 20) {
            acts.removeFirst();
        }
        s = next;
    }

    int feed(int a, int b, int c, int d, int e) {
        if (tape.length() > 380) {
            return NONE;
        }
        for (int n : new int[] {a, b, c, d, e}) {
            for (int i = 3; i >= 0; i--) {
                tape.append((char) (n >>> 8 * i & 255));
            }
        }
        return tape.length();
    }

    int end(int n) {
        if (!in(n, 0, tape.length())) {
            return NONE;
        }
        tape.setLength(n);
        return n;
    }

    int river() {
        String text = tape.toString();
        tape.setLength(0);
        try {
            brook = new Reader(text).brook();
        } catch (Fault f) {
            return -2 - f.number;
        }
        s = begin(brook);
        notes.clear();
        acts.clear();
        return brook.eels.size();
    }

    int rule() {
        if (rules.size() == 6) {
            return NONE;
        }
        String text = tape.toString();
        tape.setLength(0);
        try {
            rules.add(new Reader(text).rule());
        } catch (Fault f) {
            return -2 - f.number;
        }
        return rules.size() - 1;
    }

    int force(int rule) {
        if (!in(rule, -1, rules.size() - 1)) {
            return -2;
        }
        int was = force;
        force = rule;
        return was;
    }

    int memory(int m, int what) {
        if (!mem(m) || !in(what, 0, 3)) {
            return -2;
        }
        Eel e = s.eels.get(m);
        return new int[] {e.size(), e.smell(), e.whose(), s.where.get(m)}[what];
    }

    int trap(int t, int what) {
        if (!pot(t) || !in(what, 0, 4)) {
            return -2;
        }
        Pot p = s.pots.get(t);
        return new int[] {p.pool(), p.throat(), p.bait(), p.keeper(), s.in(t)}[what];
    }

    int person(int p) {
        return per(p) ? s.bits(30 + p) : NONE;
    }

    int moon(int n) {
        return brook != null && in(n, 0, brook.round() - 1) ? brook.light(n) : NONE;
    }

    int night() {
        if (brook == null || s.night == 999) {
            return NONE;
        }
        State old = s;
        act(after(s, ruling(), 1));
        int bits = 0;
        for (int m = 0; m < s.where.size(); m++) {
            bits += old.free(m) && s.where.get(m) >= 20 ? 1 << m : 0;
        }
        return bits;
    }

    int lift(int t) {
        if (!pot(t) || empty(t)) {
            return NONE;
        }
        int m = s.in(t);
        int keeper = s.pots.get(t).keeper();
        if (s.eels.get(m).size() > brook.people.get(keeper)) {
            return NONE;
        }
        State next = s.copy();
        next.where.set(m, 30 + keeper);
        act(next);
        return m;
    }

    int sink(int t, int p, int bait) {
        if (!empty(t) || !pool(p) || !in(bait, 0, 7)) {
            return NONE;
        }
        Pot was = s.pots.get(t);
        Pot is = new Pot(p, was.throat(), bait, was.keeper());
        if (is.equals(was)) {
            return NONE;
        }
        State next = s.copy();
        next.pots.set(t, is);
        act(next);
        return was.pool() * 8 + was.bait();
    }

    int move(int m, int to) {
        int who = s.where.get(m) - 30;
        State next = s.copy();
        next.where.set(m, to);
        act(next);
        return who;
    }

    int free(int m, int p) {
        return mem(m) && s.where.get(m) >= 30 && pool(p) ? move(m, p) : NONE;
    }

    int give(int m, int p) {
        return mem(m) && s.where.get(m) >= 30 && per(p) && s.where.get(m) != 30 + p ? move(m, 30 + p) : NONE;
    }

    int undo() {
        if (acts.isEmpty()) {
            return NONE;
        }
        s = acts.removeLast();
        return acts.size();
    }

    int ahead(int m, int n) {
        return mem(m) && in(n, 0, 100) ? after(s, ruling(), n).where.get(m) : -2;
    }

    int caught(int m, int what) {
        if (!mem(m) || !s.free(m) || !in(what, 0, 1)) {
            return NONE;
        }
        State t = s;
        for (int i = 0; i < 200; i++) {
            int night = t.night;
            t = after(t, ruling(), 1);
            if (t.where.get(m) >= 20) {
                return what == 0 ? night : t.where.get(m) - 20;
            }
        }
        return -2;
    }

    int atSea(int n) {
        return brook != null && in(n, 0, 100) ? after(s, ruling(), n).bits(SEA) : NONE;
    }

    int full() {
        if (brook == null) {
            return NONE;
        }
        for (int i = 0; i < 200; i++) {
            if (after(s, ruling(), i + 1).full() == s.pots.size()) {
                return s.night + i;
            }
        }
        return -2;
    }

    int bestSink(int t, int n, int what) {
        if (!empty(t) || !in(n, 1, 40) || !in(what, 0, 2)) {
            return -2;
        }
        int[] best = {after(s, ruling(), n).full(), NONE, NONE};
        for (int p = 0; p < brook.pools; p++) {
            for (int b = 0; b < 8; b++) {
                State u = s.copy();
                u.pots.set(t, new Pot(p, s.pots.get(t).throat(), b, 0));
                int many = after(u, ruling(), n).full();
                if (many > best[0]) {
                    best = new int[] {many, p, b};
                }
            }
        }
        return best[what];
    }

    int lay(int m, int n, int p, int what) {
        if (!mem(m) || !s.free(m) || !in(n, 1, 40) || !pool(p) || !in(what, 0, 1)) {
            return NONE;
        }
        int many = 0;
        int bits = 0;
        for (int q = 0; q < brook.pools; q++) {
            State u = s.copy();
            u.where.set(m, q);
            if (after(u, ruling(), n).where.get(m) == p) {
                many++;
                bits += 1 << q;
            }
        }
        return what == 0 ? many : bits;
    }

    int throats(int t, int n) {
        if (!empty(t) || !in(n, 1, 40)) {
            return NONE;
        }
        for (int throat = 1; throat <= 9; throat++) {
            State u = s.copy();
            Pot p = s.pots.get(t);
            u.pots.set(t, new Pot(p.pool(), throat, p.bait(), p.keeper()));
            if (after(u, ruling(), n).in(t) >= 0) {
                return throat;
            }
        }
        return -2;
    }

    int astray() {
        if (brook == null) {
            return NONE;
        }
        int bits = 0;
        for (int m = 0; m < s.eels.size(); m++) {
            bits += s.where.get(m) >= 30 && s.where.get(m) - 30 != s.eels.get(m).whose() ? 1 << m : 0;
        }
        return bits;
    }

    int rings(int what) {
        if (brook == null || !in(what, 0, 1)) {
            return NONE;
        }
        int many = 0;
        int best = 0;
        for (int set = 0; set < 1 << brook.people.size(); set++) {
            boolean good = Integer.bitCount(set) > 1;
            for (int p = 0; p < 4; p++) {
                boolean has = false;
                boolean lost = false;
                for (int m = 0; m < s.eels.size(); m++) {
                    int holder = s.where.get(m) - 30;
                    int owner = s.eels.get(m).whose();
                    if (holder < 0 || holder == owner) {
                        continue;
                    }
                    has |= holder == p && (set & 1 << owner) != 0;
                    lost |= owner == p && (set & 1 << holder) != 0;
                }
                good &= (set & 1 << p) == 0 || has && lost;
            }
            if (good) {
                many++;
                best = Integer.bitCount(set) > Integer.bitCount(best) ? set : best;
            }
        }
        return what == 0 ? many : best;
    }

    int right(int what) {
        if (brook == null || !in(what, 0, 2)) {
            return NONE;
        }
        int bits = astray();
        if (what == 0) {
            return Integer.bitCount(bits);
        }
        if (bits == 0) {
            return -2;
        }
        int m = Integer.numberOfTrailingZeros(bits);
        return what == 1 ? m : s.eels.get(m).whose();
    }

    boolean so(State start, List<Clause> rule) {
        for (Told t : notes) {
            State u = after(start, rule, t.night());
            int is = u.free(t.memory()) ? u.where.get(t.memory()) : NONE;
            if (is != t.pool()) {
                return false;
            }
        }
        return true;
    }

    int of(int m) {
        if (!mem(m)) {
            return NONE;
        }
        int bits = 0;
        for (int p = 0; p < brook.people.size(); p++) {
            State u = begin(brook);
            Eel e = u.eels.get(m);
            u.eels.set(m, new Eel(e.pool(), e.size(), e.smell(), p));
            bits += so(u, ruling()) ? 1 << p : 0;
        }
        return bits;
    }

    int rests(int one, int other, int n, int what) {
        if (one == other || !empty(one) || !empty(other) || !in(n, 1, 20) || !in(what, 0, 2)) {
            return NONE;
        }
        int[][][] has = new int[8][8][2];
        for (int a = 0; a < 8; a++) {
            for (int b = 0; b < 8; b++) {
                State u = s.copy();
                u.pots.set(one, new Pot(s.pots.get(one).pool(), s.pots.get(one).throat(), a, 0));
                u.pots.set(other, new Pot(s.pots.get(other).pool(), s.pots.get(other).throat(), b, 0));
                u = after(u, ruling(), n);
                has[a][b][0] = u.in(one) < 0 ? 0 : u.eels.get(u.in(one)).size();
                has[a][b][1] = u.in(other) < 0 ? 0 : u.eels.get(u.in(other)).size();
            }
        }
        List<int[]> found = new ArrayList<>();
        for (int a = 0; a < 8; a++) {
            for (int b = 0; b < 8; b++) {
                boolean good = true;
                for (int c = 0; c < 8; c++) {
                    good &= has[c][b][0] <= has[a][b][0] && has[a][c][1] <= has[a][b][1];
                }
                if (good) {
                    found.add(new int[] {a, b});
                }
            }
        }
        return what == 0 ? found.size() : found.isEmpty() ? -2 : found.get(0)[what - 1];
    }

    int cycle(int what) {
        if (brook == null || !in(what, 0, 1)) {
            return NONE;
        }
        List<List<Integer>> at = new ArrayList<>();
        State t = s;
        for (int i = 0; i <= 60; i++) {
            at.add(t.where);
            t = after(t, ruling(), 1);
        }
        for (int i = 0; i < 60; i++) {
            for (int j = i + 1; j <= 60; j++) {
                if (at.get(i).equals(at.get(j)) && (s.night + i) % brook.round() == (s.night + j) % brook.round()) {
                    return what == 0 ? s.night + i : j - i;
                }
            }
        }
        return -2;
    }

    int pence(int much, int person) {
        if (!in(much, 0, 9999) || !per(person)) {
            return NONE;
        }
        int n = brook.people.size();
        int[] sizes = new int[n];
        int all = 0;
        for (int m = 0; m < s.eels.size(); m++) {
            if (s.where.get(m) >= 30) {
                sizes[s.where.get(m) - 30] += s.eels.get(m).size();
                all += s.eels.get(m).size();
            }
        }
        if (all == 0) {
            return 0;
        }
        int[] part = new int[n];
        int[] rest = new int[n];
        int left = much;
        for (int p = 0; p < n; p++) {
            part[p] = much * sizes[p] / all;
            rest[p] = much * sizes[p] % all;
            left -= part[p];
        }
        while (left-- > 0) {
            int best = 0;
            for (int p = 0; p < n; p++) {
                best = rest[p] > rest[best] ? p : best;
            }
            part[best]++;
            rest[best] = -1;
        }
        return part[person];
    }

    int note(int n, int m, int p) {
        if (n == NONE) {
            notes.clear();
            return 0;
        }
        if (!in(n, 0, 60) || !mem(m) || !(p == NONE || pool(p)) || notes.size() == 10) {
            return -2;
        }
        notes.add(new Told(n, m, p));
        return notes.size();
    }

    List<Integer> fitting() {
        List<Integer> found = new ArrayList<>();
        for (int r = -1; r < rules.size(); r++) {
            if (so(begin(brook), r < 0 ? null : rules.get(r))) {
                found.add(r);
            }
        }
        return found;
    }

    int ruled(int what) {
        if (brook == null || !in(what, 0, 1)) {
            return -3;
        }
        List<Integer> found = fitting();
        return what == 0 ? found.size() : found.isEmpty() ? -2 : found.get(0);
    }

    int look(int n, int what) {
        if (brook == null || !in(n, 0, 60) || !in(what, 0, 1)) {
            return NONE;
        }
        List<Integer> found = fitting();
        if (found.isEmpty() || s.eels.isEmpty()) {
            return -2;
        }
        int best = -1;
        int fewest = 99;
        for (int m = 0; m < s.eels.size(); m++) {
            Map<Integer, Integer> parts = new HashMap<>();
            int most = 0;
            for (int r : found) {
                State u = after(begin(brook), r < 0 ? null : rules.get(r), n);
                most = Math.max(most, parts.merge(u.free(m) ? u.where.get(m) : NONE, 1, Integer::sum));
            }
            if (most < fewest) {
                fewest = most;
                best = m;
            }
        }
        return what == 0 ? best : fewest;
    }

    int seed(int to) {
        if (to < 0) {
            return NONE;
        }
        int was = (int) x;
        x = to;
        return was;
    }

    int moons(int m, int n, int p, int what) {
        if (brook == null || !in(m, 1, 10) || !in(n, 1, 60) || !in(p, 0, 100) || !in(what, 0, 1)) {
            return NONE;
        }
        long y = x;
        int sum = 0;
        for (int i = 0; i < m; i++) {
            State t = s;
            for (int j = 0; j < n; j++) {
                int light = brook.light(t.night);
                y = y * 1103515245L + 12345L & 0x7fffffffL;
                if ((y >> 16) % 100 < p) {
                    y = y * 1103515245L + 12345L & 0x7fffffffL;
                    light = (int) ((y >> 16) % 10);
                }
                t = passed(t, ruling(), light);
            }
            sum += what == 0 ? t.full() : Integer.bitCount(t.bits(SEA));
        }
        return sum;
    }

    int count(int what) {
        boolean is = brook != null;
        int free = 0;
        for (int m = 0; m < s.where.size(); m++) {
            free += s.free(m) ? 1 << m : 0;
        }
        int[] all = {is ? brook.pools : 0, is ? brook.big : 0, is ? brook.round() : 0, is ? brook.people.size() : 0,
            s.eels.size(), s.pots.size(), rules.size(), force, s.night, free, s.bits(SEA), notes.size(), acts.size(),
            (int) x, tape.length()};
        return in(what, 0, 14) ? all[what] : NONE;
    }

    int image(int k) {
        if (!in(k, 0, 3)) {
            return NONE;
        }
        images.put(k, new Image(brook, s, new ArrayList<>(notes), force, x));
        return s.night;
    }

    int back(int k) {
        Image i = images.get(k);
        if (i == null) {
            return NONE;
        }
        brook = i.brook();
        s = i.s();
        notes = new ArrayList<>(i.notes());
        force = i.force();
        x = i.x();
        acts.clear();
        return s.night;
    }
}
