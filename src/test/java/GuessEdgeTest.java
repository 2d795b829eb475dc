import java.util.function.IntPredicate;

/** The edges that the document names for NOTES, what they tell, and DRAWS, promises 27 and 31 to 35. */
public final class GuessEdgeTest {
    private static final int NONE = EelThroat.NONE;
    private static final Edge EDGE = new Edge("GuessEdgeTest");
    private static final String FOUR = "river 2 9;person 1;person 1;person 1;person 1";

    public static void main(String[] args) {
        of();
        note();
        ruled();
        ruledRefused();
        look();
        lookRefused();
        seed();
        moons();
        draws();
        EDGE.close();
    }

    private static int noted(EelThroat x, int n, int memory, int pool) {
        x.note(NONE, 0, 0);
        x.note(n, memory, pool);
        return x.of(memory);
    }

    private static void of() {
        EDGE.of("PEOPLE who can be those WHOSE it is, in place of what the text told, so that from the begin on, by the RULE IN FORCE, "
            + "all else as the text told it, all NOTES are so, as bits", () -> {
                EelThroat x = Due.with(FOUR + ";memory 0 1 0 1", "go pool if whose = 2 and night = 59");
                EDGE.is("all without NOTES", x.of(0), 15);
                EDGE.is("NIGHT 0", noted(x, 0, 0, 0), 15);
                EDGE.is("NIGHT 0", noted(x, 0, 0, 1), 0);
                EDGE.is("NIGHT 59", noted(x, 59, 0, 1), 0);
                EDGE.is("NIGHT 60", noted(x, 60, 0, 1), 4);
                EDGE.is("NIGHT 60", noted(x, 60, 0, 0), 11);
                EDGE.is("not FREE", noted(x, 60, 0, NONE), 0);
                x.note(NONE, 0, 0);
                x.note(60, 0, 0);
                x.note(60, 0, 1);
                EDGE.is("none of both", x.of(0), 0);
                x.force(NONE);
                x.note(NONE, 0, 0);
                x.note(1, 0, 1);
                EDGE.is("by none, all", x.of(0), 15);
                x = Due.with(FOUR + ";memory 0 1 0 1;memory 0 1 0 3;trap 1 1 0 0", "go pool if whose = 3");
                x.note(1, 1, NONE);
                EDGE.is("the other one as told", x.of(0), 7);
                EDGE.is("the last PERSON", x.of(1), 8);
                x = Due.with(FOUR + ";memory 1 9 0 0;memory 0 1 1 0", "go 1 if whose = 0 and pool = 0");
                x.note(1, 0, NONE);
                EDGE.is("at SEA is not FREE", x.of(0), 14);
                Due.nights(x, 2);
                EDGE.is("from the begin on", x.of(0), 14);
            });
        EDGE.of("OF, as bits; NONE without that MEMORY", () -> {
            for (int m : Edge.outside(0, 4)) {
                EDGE.refused("MEMORY " + m, x -> x.of(m), NONE);
            }
            EDGE.without("of", x -> x.of(0), NONE);
            EDGE.is("no MEMORIES", Due.with(FOUR).of(0), NONE);
        });
    }

    private static EelThroat ten() {
        EelThroat x = Edge.rich();
        for (int i = 3; i < 10; i++) {
            x.note(i, 4, i % 6 - 1);
        }
        return x;
    }

    private static void note() {
        EDGE.of("NOTES 0 to 9, told: at the begin of the n-th NIGHT of all (0 to 60) a MEMORY was FREE in a POOL, or was not FREE (NONE)", () -> {
            EelThroat x = Edge.waiting(59);
            for (int i = 1; i <= 10; i++) {
                EDGE.is("one more", x.note(i == 10 ? 60 : 59, 0, i == 10 ? NONE : 0), i);
            }
            EDGE.is("ten", x.count(11), 10);
            EDGE.is("all are so", x.ruled(1), 0);
            x = Edge.waiting(59);
            for (int i = 1; i <= 9; i++) {
                x.note(59, 0, 0);
            }
            x.note(60, 0, 0);
            EDGE.is("the tenth is not so", x.ruled(1), -2);
            x = Edge.waiting(59);
            x.note(60, 0, 0);
            for (int i = 1; i <= 9; i++) {
                x.note(59, 0, 0);
            }
            EDGE.is("the first is not so", x.ruled(1), -2);
            x = Due.with("river 12 9;person 1" + ";memory 11 1 0 0".repeat(6));
            EDGE.is("the last of all", x.note(60, 5, 11), 1);
            EDGE.is("the first of all", x.note(0, 0, 0), 2);
        });
        EDGE.of("A NOTE (n NONE: there are none then, 0): how many", () -> {
            EelThroat x = ten();
            EDGE.is("none of ten", x.note(NONE, 0, 0), 0);
            EDGE.is("none", x.count(11), 0);
            EDGE.is("all RULES are so", x.ruled(0), 3);
            EDGE.is("none of none", x.note(NONE, 99, 99), 0);
            EDGE.is("one", x.note(0, 0, 0), 1);
            EDGE.without("note", y -> y.note(NONE, 0, 0), 0);
            x = Edge.rich();
            x.note(NONE, 0, 0);
            EDGE.is("no ACT", x.count(12), 4);
        });
        EDGE.of("-2, and nothing happens, without these (pool NONE: not FREE), or if there are 10", () -> {
            for (int n : Edge.outside(NONE, 60)) {
                EDGE.refused("n " + n, x -> x.note(n, 0, 0), -2);
            }
            for (int m : Edge.outside(0, 4)) {
                EDGE.refused("MEMORY " + m, x -> x.note(0, m, 0), -2);
            }
            for (int pool : Edge.outside(NONE, 4)) {
                EDGE.refused("POOL " + pool, x -> x.note(0, 0, pool), -2);
            }
            EDGE.still("an eleventh", GuessEdgeTest::ten, x -> x.note(0, 0, 0), -2);
            EDGE.without("note", x -> x.note(0, 0, 0), -2);
            EDGE.without("note", x -> x.note(0, 0, NONE), -2);
        });
    }

    /** RULE i lets its MEMORY go down in NIGHT i alone; the sixth one in NIGHT 59. */
    private static EelThroat six(String river) {
        EelThroat x = Due.with(river);
        for (int i = 0; i < 6; i++) {
            Due.rule(x, "go pool if night = " + (i == 5 ? 59 : i + 1));
        }
        return x;
    }

    private static void so(EelThroat x, int many, int first) {
        EDGE.is("how many", x.ruled(0), many);
        EDGE.is("the first", x.ruled(1), first);
    }

    private static void ruled() {
        String one = "river 2 9;person 1;memory 0 1 0 0";
        EDGE.of("RULED: which of the RULES, and of none, so that from the begin on, all as the text told it, all NOTES are so: how many; "
            + "the first (none ahead of 0, told as NONE)", () -> {
                so(Due.with(one), 1, NONE);
                so(six(one), 7, NONE);
                EelThroat x = six(one);
                x.note(0, 0, 0);
                so(x, 7, NONE);
                x.note(1, 0, 0);
                so(x, 6, 0);
                x.note(2, 0, 0);
                so(x, 5, 1);
                x.note(59, 0, 0);
                so(x, 1, 5);
                x.note(60, 0, 0);
                so(x, 0, -2);
                x.note(NONE, 0, 0);
                x.note(60, 0, 1);
                so(x, 7, NONE);
                x.note(1, 0, 1);
                so(x, 1, NONE);
                x.note(0, 0, 1);
                so(x, 0, -2);
                x = six(one);
                x.note(0, 0, NONE);
                so(x, 0, -2);
                x = six(one + ";trap 1 1 0 0");
                x.note(60, 0, NONE);
                so(x, 7, NONE);
                x.note(59, 0, 0);
                so(x, 1, 5);
                Due.nights(x, 5);
                x.lift(0);
                x.free(0, 1);
                x.sink(0, 0, 7);
                x.force(2);
                so(x, 1, 5);
                x = six("river 2 1;person 1;memory 0 1 0 0");
                x.note(3, 0, NONE);
                // By none it is below at the begin of NIGHT 1, and at SEA at that of NIGHT 2; by RULE 0 a NIGHT later.
                so(x, 2, NONE);
                x.note(2, 0, 1);
                so(x, 1, 0);
            });
    }

    private static void ruledRefused() {
        EDGE.of("(NONE: none; -2: there is none such). -3 for others, or without a RIVER", () -> {
            for (int what : Edge.outside(0, 1)) {
                EDGE.refused("what " + what, x -> x.ruled(what), -3);
            }
            EDGE.without("ruled", x -> x.ruled(0), -3);
            EDGE.without("ruled", x -> x.ruled(1), -3);
            so(Due.with("river 2 9"), 1, NONE);
        });
    }

    private static void looked(EelThroat x, int n, int memory, int many) {
        EDGE.is("the MEMORY in NIGHT " + n, x.look(n, 0), memory);
        EDGE.is("how many in NIGHT " + n, x.look(n, 1), many);
    }

    private static void look() {
        EDGE.of("LOOK at the begin of the n-th NIGHT: the MEMORY by whose POOL, or none, these part best: the most alike are fewest, "
            + "of several the least; how many", () -> {
                String one = "river 2 9;person 1;memory 0 1 0 0";
                looked(Due.with(one), 0, 0, 1);
                looked(Due.with(one), 60, 0, 1);
                EelThroat x = six(one);
                looked(x, 0, 0, 7);
                looked(x, 1, 0, 6);
                looked(x, 4, 0, 4);
                looked(x, 59, 0, 6);
                looked(x, 60, 0, 7);
                x.note(1, 0, 0);
                looked(x, 59, 0, 5);
                x.note(59, 0, 0);
                looked(x, 60, 0, 1);
                // The last MEMORY alone parts them.
                x = Due.with("river 2 9;person 1" + ";memory 0 1 0 0".repeat(6), "go pool if memory < 5 or night > 0");
                looked(x, 1, 5, 1);
                looked(x, 2, 0, 2);
                // 0 is in one POOL by all three, 1 in two, 2 in three.
                x = Due.with("river 3 9;person 1;memory 1 1 0 0;memory 1 1 1 0;memory 1 1 2 0", "go 1 if memory = 1 and pool = 1;go pool + 1 if memory = 0",
                    "go 1 if memory = 1 and pool = 1;go 5 - pool if memory = 2;go pool if memory = 0");
                looked(x, 1, 2, 1);
                x = Due.with("river 3 9;person 1;memory 1 1 0 0;memory 1 1 1 0;memory 1 1 2 0", "go 3 - pool if memory > 0;go pool",
                    "go pool if memory = 0;go pool + 1 if memory = 1;go 9 - pool");
                looked(x, 1, 1, 2);
                // By none MEMORY 0 goes into the TRAP and 1 to SEA, by the RULE 1 into the TRAP and 0 to SEA: all are none then.
                x = Due.with("river 2 1;person 1;memory 0 1 1 0;memory 0 1 1 0;trap 1 1 1 0", "go pool if memory = 1 or night > 0");
                looked(x, 1, 0, 1);
                looked(x, 2, 0, 1);
                looked(x, 3, 0, 2);
                x = Due.with("river 3 1;person 1;memory 1 1 1 0;memory 2 1 0 0;memory 0 1 0 0;trap 2 1 1 0", "go pool + 1 if memory < 2");
                looked(x, 1, 2, 1);
            });
    }

    private static void lookRefused() {
        EDGE.of("LOOK (n 0 to 60) what 0: the MEMORY, 1: how many; -2: no RULE is so, or there are no MEMORIES. NONE without these, or a RIVER", () -> {
            EelThroat x = six("river 2 9;person 1;memory 0 1 0 0");
            x.note(0, 0, 1);
            looked(x, 0, -2, -2);
            looked(x, 60, -2, -2);
            looked(six("river 2 9;person 1"), 60, -2, -2);
            for (int n : Edge.outside(0, 60)) {
                EDGE.refused("n " + n, y -> y.look(n, 0), NONE);
                EDGE.refused("n " + n, y -> y.look(n, 1), NONE);
            }
            for (int what : Edge.outside(0, 1)) {
                EDGE.refused("what " + what, y -> y.look(0, what), NONE);
            }
            EDGE.without("look", y -> y.look(0, 0), NONE);
            EDGE.without("look", y -> y.look(0, 1), NONE);
        });
    }

    private static void seed() {
        EDGE.of("DRAWS: x (0 to 2147483647; 0 at first)", () -> {
            EelThroat x = new EelThroat();
            EDGE.is("at first", x.count(13), 0);
            EDGE.is("the most", x.seed(2147483647), 0);
            EDGE.is("it is so", x.count(13), 2147483647);
            EDGE.is("the least", x.seed(0), 2147483647);
            EDGE.is("it is so", x.count(13), 0);
        });
        EDGE.of("x becomes a number: what it was; NONE, and nothing happens, below 0", () -> {
            EDGE.refused("-1", x -> x.seed(-1), NONE);
            EDGE.refused("the least there is", x -> x.seed(Integer.MIN_VALUE), NONE);
            EDGE.still("as it is", Edge::rich, x -> x.seed(12345), 12345);
            EDGE.without("seed", x -> x.seed(-1), NONE);
            EDGE.is("no ACT", Edge.rich().seed(0), 12345);
        });
    }

    private static long next(long x) {
        return (x * 1103515245L + 12345L) % 2147483648L;
    }

    /** The least x whose first DRAW mod 100 is as asked and whose second DRAW mod 10 is a LIGHT. */
    private static int seedFor(IntPredicate first, int light) {
        for (int x = 0; x < 1000000; x++) {
            long one = next(x);
            if (first.test((int) (one / 65536 % 100)) && next(one) / 65536 % 10 == light) {
                return x;
            }
        }
        throw new IllegalStateException("no such x");
    }

    private static void moons() {
        EDGE.of("MOONS m times (1 to 10) n NIGHTS (1 to 60) from now on", () -> {
            EDGE.is("59", Edge.waiting(59).moons(1, 59, 0, 0), 0);
            EDGE.is("60", Edge.waiting(59).moons(1, 60, 0, 0), 1);
            EDGE.is("60", Edge.waiting(60).moons(1, 60, 0, 0), 0);
            EDGE.is("1", Edge.waiting(0).moons(1, 1, 0, 0), 1);
            EDGE.is("10 times", Edge.waiting(0).moons(10, 1, 0, 0), 10);
            EelThroat x = Edge.waiting(60);
            x.night();
            EDGE.is("from now on", x.moons(2, 60, 100, 0), 2);
            x = Due.with("river 2 1;person 1" + ";memory 1 1 0 0".repeat(6) + ";trap 1 1 0 0".repeat(4));
            EDGE.is("all at SEA", x.moons(10, 60, 100, 1), 60);
            EDGE.is("none in TRAPS", x.moons(10, 60, 100, 0), 0);
            x = Due.with("river 2 2;person 1" + ";memory 1 1 0 0".repeat(6) + ";trap 1 1 0 0".repeat(4));
            EDGE.is("none at SEA", x.moons(10, 60, 100, 1), 0);
            EDGE.is("four in TRAPS", x.moons(10, 60, 100, 0), 40);
            EDGE.is("no MEMORIES", Due.with("river 2 2").moons(10, 60, 100, 0), 0);
            x.night();
            EDGE.is("those that were", x.moons(1, 1, 0, 0), 4);
        });
        EDGE.of("MOONS what 0: in TRAPS, 1: at SEA. NONE without these, or a RIVER", () -> {
            for (int what = 0; what < 2; what++) {
                int asked = what;
                for (int m : Edge.outside(1, 10)) {
                    EDGE.refused("m " + m, x -> x.moons(m, 1, 0, asked), NONE);
                }
                for (int n : Edge.outside(1, 60)) {
                    EDGE.refused("n " + n, x -> x.moons(1, n, 0, asked), NONE);
                }
                for (int p : Edge.outside(0, 100)) {
                    EDGE.refused("p " + p, x -> x.moons(1, 1, p, asked), NONE);
                }
                EDGE.without("moons", x -> x.moons(1, 1, 0, asked), NONE);
            }
            for (int what : Edge.outside(0, 1)) {
                EDGE.refused("what " + what, x -> x.moons(1, 1, 0, what), NONE);
            }
        });
    }

    private static int drawn(EelThroat x, int seed, int n, int p) {
        x.seed(seed);
        return x.moons(1, n, p, 0);
    }

    private static void draws() {
        String river = "river 2 9;moon 3;moon 4;person 1;memory 0 1 0 0;trap 1 1 0 0";
        EDGE.of("ahead of each a DRAW mod 100: is it below p (0 to 100), a DRAW mod 10: LIGHT of this NIGHT alone, in place of the moon's", () -> {
            for (int light = 0; light <= 9; light++) {
                EelThroat x = Due.with(river, "go pool if night = 0 and light = " + light + " and next = 4");
                EDGE.is("0 is not below 0", drawn(x, seedFor(d -> d == 0, light), 1, 0), light == 3 ? 1 : 0);
                EDGE.is("0 is below 1", drawn(x, seedFor(d -> d == 0, light), 1, 1), 1);
                EDGE.is("49 is not below 49", drawn(x, seedFor(d -> d == 49, light), 1, 49), light == 3 ? 1 : 0);
                EDGE.is("49 is below 50", drawn(x, seedFor(d -> d == 49, light), 1, 50), 1);
                EDGE.is("99 is not below 99", drawn(x, seedFor(d -> d == 99, light), 1, 99), light == 3 ? 1 : 0);
                EDGE.is("99 is below 100", drawn(x, seedFor(d -> d == 99, light), 1, 100), 1);
                EDGE.is("another LIGHT", drawn(x, seedFor(d -> d == 99, (light + 1) % 10), 1, 100), 0);
            }
            int seed = seedFor(d -> d == 0, 7);
            EDGE.is("the NIGHT behind it is not drawn", next(next(next(seed))) / 65536 % 100 > 0 ? 1 : 0, 1);
            EDGE.is("7 in NIGHT 0 alone", drawn(Due.with(river, "go pool if night = 1 and light = 7"), seed, 2, 1), 0);
            EDGE.is("the moon's in NIGHT 1", drawn(Due.with(river, "go pool if night = 1 and light = 4"), seed, 2, 1), 1);
        });
        EDGE.of("x * 1103515245 + 12345, of 2147483648 the rest; a DRAW is x / 65536", () -> {
            // The first x of 0 is 12345, whose DRAW is 0; the second 1406932606: 21468, of which 8 is the LIGHT.
            EDGE.is("from 0 on", drawn(Due.with(river, "go pool if light = 8"), 0, 1, 1), 1);
            // Of 2147483647 it is 1043980748: 15929, of which 29 is below 30 alone; then 288979989: 4409, and LIGHT 9.
            EDGE.is("from the most on", drawn(Due.with(river, "go pool if light = 9"), 2147483647, 1, 30), 1);
            EDGE.is("from the most on", drawn(Due.with(river, "go pool if light = 9"), 2147483647, 1, 29), 0);
            EDGE.is("from the most on", drawn(Due.with(river, "go pool if light = 3"), 2147483647, 1, 29), 1);
        });
        EDGE.of("all together (nothing stays; x as it was)", () -> {
            for (int seed : new int[] {0, 1, 2147483647}) {
                EDGE.still("moons", () -> {
                    EelThroat x = Due.with(river, "go pool");
                    x.seed(seed);
                    return x;
                }, x -> x.moons(10, 60, 50, 0), 10);
            }
            // x goes on through the times: in 3 times of one NIGHT by p 100 six DRAWS are made.
            EelThroat x = Due.with(river, "go pool if light = 5");
            for (int seed = 0; seed < 200; seed++) {
                long y = seed;
                int many = 0;
                for (int i = 0; i < 3; i++) {
                    y = next(next(y));
                    many += y / 65536 % 10 == 5 ? 1 : 0;
                }
                x.seed(seed);
                EDGE.is("three times from " + seed, x.moons(3, 1, 100, 0), many);
            }
        });
    }
}
