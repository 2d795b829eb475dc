import java.util.ArrayList;
import java.util.List;
import java.util.Random;

/** Drawn runs of calls on the class and on the Model, which must answer alike; what is drawn is always the same. */
public final class ModelTest {
    private static final String[] VALUES = {"memory", "pool", "from", "size", "smell", "bait", "traps", "with", "light",
        "next", "whose", "night", "0", "1", "2", "3", "5", "9", "12", "99999"};
    /** RULES by which more happens than by most that are drawn. */
    private static final String[] PLAIN = {"go pool + 1", "go 9 - pool", "go 9 * bait + pool", "go light * pool - next",
        "go 5 if bait > 0;go 3 - with", "go whose + 1 if pool < from;go pool", "go traps * 3 + size - smell",
        "go 9 if pool > from and light > 4;go 9 if pool < from and light <= 4", "go 1 if night % 3 = pool % 3"};
    private static final String[] SIGNS = {"<", "<=", "=", ">=", ">"};

    private final Random random;
    private final EelThroat x = new EelThroat();
    private final Model model = new Model();
    private final List<String> calls = new ArrayList<>();
    private final int[] hits;

    private ModelTest(long seed, int[] hits) {
        this.random = new Random(seed);
        this.hits = hits;
    }

    public static void main(String[] args) {
        int runs = args.length > 0 ? Integer.parseInt(args[0]) : 200;
        long from = args.length > 1 ? Long.parseLong(args[1]) : 0;
        int[] hits = new int[64];
        for (int run = 0; run < runs; run++) {
            if (!new ModelTest(from + run, hits).run()) {
                System.out.println("in run " + (from + run));
                System.exit(1);
            }
        }
        System.out.println("ModelTest: " + runs + " runs alike");
        if (args.length > 2) {
            for (int i = 0; i < hits.length; i++) {
                System.out.println("call " + i + ": " + hits[i] + " good answers");
            }
        }
    }

    private int draw(int n) {
        return random.nextInt(n);
    }

    private int near(int most) {
        int kind = draw(30);
        return kind == 0 ? -1 : kind == 1 ? most + 1 : kind == 2 ? random.nextInt() : draw(most + 1);
    }

    private String riverText() {
        int pools = 2 + (draw(4) == 0 ? draw(11) : draw(4));
        StringBuilder text = new StringBuilder("river " + pools + " " + (5 + draw(5)));
        int moons = draw(3) == 0 ? draw(13) : draw(4);
        for (int i = 0; i < moons; i++) {
            text.append(";moon ").append(draw(10));
        }
        int people = 1 + draw(4);
        for (int i = 0; i < people; i++) {
            text.append(";person ").append(5 + draw(5));
        }
        int smells = 1 + (draw(3) == 0 ? draw(8) : draw(3));
        int memories = draw(7);
        for (int i = 0; i < memories; i++) {
            text.append(";memory ").append(draw(pools)).append(' ').append(1 + draw(9)).append(' ').append(draw(smells))
                .append(' ').append(draw(people));
        }
        int traps = draw(5);
        for (int i = 0; i < traps; i++) {
            text.append(";trap ").append(draw(pools)).append(' ').append(3 + draw(7)).append(' ').append(draw(smells))
                .append(' ').append(draw(people));
        }
        return text.toString();
    }

    private String sum() {
        StringBuilder text = new StringBuilder(VALUES[draw(VALUES.length)]);
        int more = draw(4);
        for (int i = 0; i < more; i++) {
            text.append(" ".repeat(draw(2))).append("+-*/%+-".charAt(draw(7))).append(" ".repeat(draw(2)));
            text.append(VALUES[draw(VALUES.length)]);
        }
        return text.toString();
    }

    private String fact(int deep) {
        int kind = draw(deep > 3 ? 3 : 6);
        if (kind == 3) {
            return "not " + fact(deep + 1);
        }
        if (kind == 4) {
            return "[" + test(deep + 1) + "]";
        }
        return sum() + SIGNS[draw(5)] + sum();
    }

    private String test(int deep) {
        StringBuilder text = new StringBuilder(fact(deep));
        int more = draw(3);
        for (int i = 0; i < more; i++) {
            text.append(draw(2) == 0 ? " and " : " or ").append(fact(deep));
        }
        return text.toString();
    }

    private String ruleText() {
        if (draw(3) == 0) {
            return PLAIN[draw(PLAIN.length)];
        }
        StringBuilder text = new StringBuilder();
        int clauses = 1 + draw(4);
        for (int i = 0; i < clauses; i++) {
            text.append(i == 0 ? "" : ";").append("go ").append(sum());
            if (draw(3) > 0) {
                text.append(" if ").append(test(0));
            }
        }
        return text.toString();
    }

    /** Now and then a byte is another one, comes in or is left out. */
    private String spoilt(String text) {
        StringBuilder spoilt = new StringBuilder(text);
        String signs = "aeo 0195;[]<>=+-*%/\u0000\u00ff";
        int often = 1 + draw(2);
        for (int i = 0; i < often && spoilt.length() > 0; i++) {
            int at = draw(spoilt.length());
            switch (draw(4)) {
                case 0: spoilt.setCharAt(at, signs.charAt(draw(signs.length()))); break;
                case 1: spoilt.deleteCharAt(at); break;
                case 2: spoilt.insert(at, signs.charAt(draw(signs.length()))); break;
                default: spoilt.setLength(at); break;
            }
        }
        return spoilt.toString();
    }

    private boolean alike(int kind, String call, int got, int want) {
        calls.add(call + " -> " + got);
        if (want > -1) {
            hits[kind]++;
        }
        if (got == want) {
            return true;
        }
        System.out.println(String.join("\n", calls));
        System.out.println(call + " answered " + got + ", the Model " + want);
        return false;
    }

    private boolean tell(String full) {
        String text = full.length() > 400 ? full.substring(0, 400) : full;
        x.end(0);
        model.end(0);
        calls.add("tell '" + text + "'");
        boolean good = true;
        for (int at = 0; at < text.length() && good; at += 20) {
            int a = Due.word(text, at);
            int b = Due.word(text, at + 4);
            int c = Due.word(text, at + 8);
            int d = Due.word(text, at + 12);
            int e = Due.word(text, at + 16);
            good = alike(50, "feed", x.feed(a, b, c, d, e), model.feed(a, b, c, d, e));
        }
        return good && alike(51, "end", x.end(text.length()), model.end(text.length()));
    }

    private boolean river(String text) {
        return tell(text) && alike(52, "river", x.river(), model.river());
    }

    private boolean rule(String text) {
        return tell(text) && alike(53, "rule", x.rule(), model.rule());
    }

    private boolean run() {
        boolean good = draw(10) == 0 || river(riverText());
        int rules = draw(6);
        for (int i = 0; i < rules && good; i++) {
            good = rule(ruleText());
        }
        for (int i = 0; i < 300 && good; i++) {
            good = (draw(3) > 0 ? draw(2) > 0 ? asked() : simple() : act()) && (draw(40) > 0 || river(riverText()));
        }
        return good;
    }

    /** The calls that make something happen come more often, so that there is something to ask. */
    private boolean act() {
        int a = near(3);
        int m = near(5);
        int t = near(3);
        for (int i = 0; i < 3; i++) {
            m = m >= 0 && m < model.s.where.size() && model.s.where.get(m) >= 30 ? m : near(5);
            t = model.pot(t) && !model.empty(t) ? t : near(3);
        }
        switch (draw(16)) {
            case 0: case 7: case 10: case 11: case 12: case 13: return alike(0, "lift(" + t + ")", x.lift(t), model.lift(t));
            case 1: case 9: return alike(1, "free(" + m + ", " + a + ")", x.free(m, a), model.free(m, a));
            case 2: case 8: return alike(2, "give(" + m + ", " + a + ")", x.give(m, a), model.give(m, a));
            case 3:
                int bait = near(7);
                return alike(3, "sink(" + a + ", " + m + ", " + bait + ")", x.sink(a, m, bait), model.sink(a, m, bait));
            case 4: return alike(4, "undo()", x.undo(), model.undo());
            default: return alike(5, "night()", x.night(), model.night());
        }
    }

    private boolean simple() {
        int a = near(6);
        int b = near(4);
        int c = near(15);
        switch (draw(19)) {
            case 0: return draw(4) > 0 || river(draw(2) == 0 ? riverText() : spoilt(riverText()));
            case 1: return draw(2) > 0 || rule(draw(3) == 0 ? ruleText() : spoilt(ruleText()));
            case 2: return alike(6, "force(" + a + ")", x.force(a), model.force(a));
            case 3: return alike(7, "memory(" + a + ", " + b + ")", x.memory(a, b), model.memory(a, b));
            case 4: return alike(8, "trap(" + a + ", " + b + ")", x.trap(a, b), model.trap(a, b));
            case 5: return alike(9, "person(" + b + ")", x.person(b), model.person(b));
            case 6: return alike(10, "moon(" + c + ")", x.moon(c), model.moon(c));
            case 7: return alike(11, "count(" + c + ")", x.count(c), model.count(c));
            case 8: return alike(12, "image(" + b + ")", x.image(b), model.image(b));
            case 9: return draw(4) > 0 || alike(13, "back(" + b + ")", x.back(b), model.back(b));
            case 10:
                int seed = random.nextInt();
                return alike(14, "seed(" + seed + ")", x.seed(seed), model.seed(seed));
            case 11: return alike(15, "astray()", x.astray(), model.astray());
            case 12: return alike(16, "rings(" + b + ")", x.rings(b % 3), model.rings(b % 3));
            case 13: return alike(17, "right(" + b + ")", x.right(b), model.right(b));
            case 14:
                int when = draw(3) == 0 ? -1 : c;
                return alike(18, "note(" + when + ", " + a + ", " + b + ")", x.note(when, a, b), model.note(when, a, b));
            case 15:
                int n = near(60);
                int m = near(5);
                int where = b == 4 || model.s.where.isEmpty() ? -1 : m >= 0 && m < model.s.where.size()
                    ? model.after(Model.begin(model.brook), model.ruling(), Math.floorMod(n, 61)).where.get(m) : 0;
                int p = where >= 20 ? -1 : where;
                return alike(19, "note(" + n + ", " + m + ", " + p + ")", x.note(n, m, p), model.note(n, m, p));
            case 16:
                int much = near(9999);
                return alike(20, "pence(" + much + ", " + b + ")", x.pence(much, b), model.pence(much, b));
            case 17: return alike(21, "end(" + c + ")", x.end(c), model.end(c));
            default: return alike(22, "feed(a, b, c, 0, 0)", x.feed(a, b, c, 0, 0), model.feed(a, b, c, 0, 0));
        }
    }

    private boolean asked() {
        int t = near(3);
        int m = near(5);
        int n = near(40);
        int what = near(2);
        String args = "(t " + t + ", m " + m + ", n " + n + ", what " + what + ")";
        switch (20 + draw(13)) {
            case 20: return alike(23, "ahead" + args, x.ahead(m, n * 2), model.ahead(m, n * 2));
            case 21: return alike(24, "caught" + args, x.caught(m, what), model.caught(m, what));
            case 22: return alike(25, "atSea" + args, x.atSea(n), model.atSea(n));
            case 23: return draw(3) > 0 || alike(26, "full()", x.full(), model.full());
            case 24: return draw(3) > 0 || alike(27, "bestSink" + args, x.bestSink(t, n, what), model.bestSink(t, n, what));
            case 25:
                int p = near(4);
                return alike(28, "lay" + args + p, x.lay(m, n, p, what), model.lay(m, n, p, what));
            case 26: return alike(29, "throats" + args, x.throats(t, n), model.throats(t, n));
            case 27: return alike(30, "of" + args, x.of(m), model.of(m));
            case 28:
                int other = near(3);
                return alike(31, "rests" + args + other, x.rests(t, other, n / 2, what), model.rests(t, other, n / 2, what));
            case 29: return alike(32, "cycle" + args, x.cycle(what), model.cycle(what));
            case 30: return alike(33, "ruled" + args, x.ruled(what), model.ruled(what));
            case 31: return alike(34, "look" + args, x.look(n, what), model.look(n, what));
            default:
                int light = near(100);
                int times = near(10);
                return alike(35, "moons" + args + light + " " + times, x.moons(times, n, light, what), model.moons(times, n, light, what));
        }
    }
}
