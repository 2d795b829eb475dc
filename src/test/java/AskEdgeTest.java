import java.util.function.Supplier;
import java.util.function.ToIntFunction;

/** The edges that the document names for what is asked of NIGHTS to come and of hands, promises 17 to 26, and 28 to 30. */
public final class AskEdgeTest {
    private static final int NONE = EelThroat.NONE;
    private static final Edge EDGE = new Edge("AskEdgeTest");
    /** MEMORY 0 goes into TRAP 1, or into none: TRAP 0 is too narrow for it. */
    private static final String NARROW = "river 2 9;person 9;memory 0 4 3 0;trap 1 1 5 0;trap 1 9 3 0";

    public static void main(String[] args) {
        nothingChanges();
        ahead();
        caught();
        atSea();
        full();
        bestSink();
        bestOfSeveral();
        lay();
        throats();
        astray();
        rings();
        right();
        rests();
        cycle();
        pence();
        EDGE.close();
    }

    private static void stays(String call, ToIntFunction<EelThroat> asked) {
        EelThroat x = Edge.rich();
        asked.applyAsInt(x);
        EDGE.same(call, x, Edge.rich());
    }

    private static void nothingChanges() {
        EDGE.of("By what is asked nothing changes; NIGHTS go on by the RULE IN FORCE; no TRAP is lifted in them", () -> {
            stays("ahead", x -> x.ahead(0, 100));
            stays("caught", x -> x.caught(0, 0));
            stays("atSea", x -> x.atSea(100));
            stays("full", x -> x.full());
            stays("bestSink", x -> x.bestSink(1, 40, 0));
            stays("lay", x -> x.lay(0, 40, 4, 0));
            stays("throats", x -> x.throats(1, 40));
            stays("astray", x -> x.astray());
            stays("rings", x -> x.rings(0));
            stays("right", x -> x.right(0));
            stays("of", x -> x.of(0));
            stays("rests", x -> x.rests(1, 2, 20, 0));
            stays("cycle", x -> x.cycle(0));
            stays("pence", x -> x.pence(9999, 0));
            stays("ruled", x -> x.ruled(0));
            stays("look", x -> x.look(60, 0));
            stays("moons", x -> x.moons(10, 60, 50, 0));
            stays("memory", x -> x.memory(0, 3));
            stays("trap", x -> x.trap(0, 4));
            stays("person", x -> x.person(0));
            stays("moon", x -> x.moon(0));
            stays("count", x -> x.count(0));
            EelThroat x = Edge.waiting(5);
            EDGE.is("by the RULE IN FORCE", x.ahead(0, 5), 0);
            EDGE.is("by the RULE IN FORCE", x.ahead(0, 6), 20);
            EDGE.is("no TRAP is lifted", x.ahead(0, 100), 20);
            x.force(NONE);
            EDGE.is("by none", x.ahead(0, 1), 20);
        });
    }

    private static void ahead() {
        EDGE.of("AHEAD n NIGHTS (0 to 100): where a MEMORY is, as told of it", () -> {
            EDGE.is("0", Edge.waiting(0).ahead(0, 0), 0);
            EDGE.is("1", Edge.waiting(0).ahead(0, 1), 20);
            EDGE.is("99", Edge.waiting(99).ahead(0, 99), 0);
            EDGE.is("100", Edge.waiting(99).ahead(0, 100), 20);
            EDGE.is("100", Edge.waiting(100).ahead(0, 100), 0);
            EelThroat x = Edge.rich();
            for (int m = 0; m < 5; m++) {
                EDGE.is("0 of MEMORY " + m, x.ahead(m, 0), x.memory(m, 3));
            }
            EDGE.is("at SEA", x.ahead(2, 100), NONE);
            EDGE.is("HAD", x.ahead(3, 100), 30);
            EDGE.is("in a TRAP", x.ahead(1, 100), 20);
        });
        EDGE.of("AHEAD: where, as told of it; -2 without these", () -> {
            for (int n : Edge.outside(0, 100)) {
                EDGE.refused("n " + n, x -> x.ahead(0, n), -2);
            }
            for (int m : Edge.outside(0, 4)) {
                EDGE.refused("MEMORY " + m, x -> x.ahead(m, 1), -2);
            }
            EDGE.without("ahead", x -> x.ahead(0, 0), -2);
            EDGE.is("no MEMORIES", Due.with("river 2 9").ahead(0, 0), -2);
        });
    }

    private static void caught() {
        EDGE.of("CAUGHT of a FREE MEMORY: the first NIGHT, this one the first, of 200, in which it goes into a TRAP; into which", () -> {
            EDGE.is("this one", Edge.waiting(0).caught(0, 0), 0);
            EDGE.is("the next one", Edge.waiting(1).caught(0, 0), 1);
            EDGE.is("the 200th", Edge.waiting(199).caught(0, 0), 199);
            EDGE.is("the 200th", Edge.waiting(199).caught(0, 1), 0);
            EDGE.is("the 201st", Edge.waiting(200).caught(0, 0), -2);
            EDGE.is("the 201st", Edge.waiting(200).caught(0, 1), -2);
            EelThroat x = Edge.waiting(200);
            x.night();
            EDGE.is("the 200th from now", x.caught(0, 0), 200);
            x = Edge.waiting(7);
            Due.nights(x, 7);
            EDGE.is("this one", x.caught(0, 0), 7);
            x = Due.with("river 2 9;person 1;memory 0 1 0 0;trap 1 1 7 0;trap 1 1 7 0;trap 1 1 7 0;trap 1 1 0 0");
            EDGE.is("the last TRAP", x.caught(0, 1), 3);
        });
        EDGE.of("-2: in none of these. NONE without these (FREE)", () -> {
            EDGE.is("it stays FREE", Due.with("river 2 9;person 1;memory 0 1 0 0;trap 1 1 1 0").caught(0, 0), -2);
            EDGE.is("it goes to SEA", Due.with("river 2 1;person 1;memory 1 1 0 0;trap 1 1 0 0").caught(0, 0), -2);
            EDGE.is("it goes to SEA", Due.with("river 2 1;person 1;memory 1 1 0 0;trap 1 1 0 0").caught(0, 1), -2);
            for (int m : Edge.outside(0, 4)) {
                EDGE.refused("MEMORY " + m, x -> x.caught(m, 0), NONE);
            }
            for (int what : Edge.outside(0, 1)) {
                EDGE.refused("what " + what, x -> x.caught(0, what), NONE);
            }
            for (int what = 0; what < 2; what++) {
                int asked = what;
                EDGE.refused("in a TRAP", x -> x.caught(1, asked), NONE);
                EDGE.refused("at SEA", x -> x.caught(2, asked), NONE);
                EDGE.refused("HAD", x -> x.caught(3, asked), NONE);
                EDGE.without("caught", x -> x.caught(0, asked), NONE);
            }
        });
    }

    /** A MEMORY to and fro; in the last POOL in odd NIGHTS, where it stays from a NIGHT on. */
    private static EelThroat toSea(int from) {
        return Due.with("river 2 1;person 1;memory 0 9 0 0", "go 1 if pool = 1 and from = 0;go 1 if pool = 0 and from = 1 and night < " + from);
    }

    private static void atSea() {
        EDGE.of("AT SEA behind n NIGHTS (0 to 100): MEMORIES, as bits", () -> {
            EDGE.is("99", toSea(99).atSea(99), 0);
            EDGE.is("100", toSea(99).atSea(100), 1);
            EDGE.is("100", toSea(101).atSea(100), 0);
            EelThroat x = Due.with("river 2 1;person 1" + ";memory 1 9 0 0".repeat(6));
            EDGE.is("0", x.atSea(0), 0);
            EDGE.is("1, all six", x.atSea(1), 63);
            x.night();
            EDGE.is("0, all six", x.atSea(0), 63);
            EDGE.is("no MEMORIES", Due.with("river 2 1").atSea(100), 0);
            x = Due.with("river 2 5;person 9" + ";memory 1 4 0 0".repeat(5) + ";memory 1 5 0 0");
            EDGE.is("the last one alone", x.atSea(100), 32);
        });
        EDGE.of("AT SEA, as bits; NONE without these, or a RIVER", () -> {
            for (int n : Edge.outside(0, 100)) {
                EDGE.refused("n " + n, x -> x.atSea(n), NONE);
            }
            EDGE.without("atSea", x -> x.atSea(0), NONE);
        });
    }

    private static void full() {
        EDGE.of("FULL: the first NIGHT, this one the first, of 200, behind which no TRAP is empty (without TRAPS this one)", () -> {
            EDGE.is("this one", Edge.waiting(0).full(), 0);
            EDGE.is("the 200th", Edge.waiting(199).full(), 199);
            EDGE.is("the 201st", Edge.waiting(200).full(), -2);
            EelThroat x = Edge.waiting(200);
            x.night();
            EDGE.is("the 200th from now", x.full(), 200);
            x = Edge.waiting(0);
            Due.nights(x, 3);
            EDGE.is("not empty already: this one", x.full(), 3);
            x = Due.with("river 2 9;person 1;memory 0 1 0 0", "go 1");
            EDGE.is("without TRAPS", x.full(), 0);
            Due.nights(x, 4);
            EDGE.is("without TRAPS", x.full(), 4);
            x = Due.with("river 2 9;person 1" + ";memory 0 1 0 0".repeat(4) + ";trap 1 1 0 0".repeat(4));
            EDGE.is("four of four", x.full(), 0);
            x = Due.with("river 2 9;person 1" + ";memory 0 1 0 0".repeat(3) + ";trap 1 1 0 0".repeat(4));
            EDGE.is("three of four", x.full(), -2);
        });
        EDGE.of("-2: behind none of these; NONE without a RIVER", () -> {
            EDGE.without("full", x -> x.full(), NONE);
            EDGE.is("no MEMORIES", Due.with("river 2 9;person 1;trap 0 1 0 0").full(), -2);
            EDGE.still("full", Edge::rich, x -> x.full(), -2);
        });
    }

    private static void best(EelThroat x, int trap, int n, int many, int pool, int bait) {
        EDGE.is("how many in " + n, x.bestSink(trap, n, 0), many);
        EDGE.is("POOL in " + n, x.bestSink(trap, n, 1), pool);
        EDGE.is("BAIT in " + n, x.bestSink(trap, n, 2), bait);
    }

    private static void bestSink() {
        EDGE.of("BEST SINK of an empty TRAP for n NIGHTS (1 to 40)", () -> {
            best(Due.with(NARROW, "go pool if night = 39"), 0, 39, 0, NONE, NONE);
            best(Due.with(NARROW, "go pool if night = 39"), 0, 40, 1, NONE, NONE);
            best(Due.with(NARROW, "go pool if night = 40"), 0, 40, 0, NONE, NONE);
            best(Due.with(NARROW, "go pool if night = 0"), 0, 1, 1, NONE, NONE);
            best(Due.with(NARROW, "go pool if night = 1"), 0, 1, 0, NONE, NONE);
        });
        EDGE.of("(both NONE: as it is). -2 without these (empty)", () -> {
            for (int what = 0; what < 3; what++) {
                int asked = what;
                for (int t : Edge.outside(0, 2)) {
                    EDGE.refused("TRAP " + t, x -> x.bestSink(t, 1, asked), -2);
                }
                for (int n : Edge.outside(1, 40)) {
                    EDGE.refused("n " + n, x -> x.bestSink(1, n, asked), -2);
                }
                EDGE.refused("not empty", x -> x.bestSink(0, 1, asked), -2);
                EDGE.without("bestSink", x -> x.bestSink(0, 1, asked), -2);
            }
            for (int what : Edge.outside(0, 2)) {
                EDGE.refused("what " + what, x -> x.bestSink(1, 1, what), -2);
            }
        });
    }

    private static void bestOfSeveral() {
        String stay = "go 1 if pool = from";
        EDGE.of("the POOL and the BAIT with which it had best be sunk now, or as it is, so that most MEMORIES are in TRAPS then; "
            + "of several as it is, then the least POOL, then the least BAIT: how many; which POOL; which BAIT", () -> {
            best(Due.with("river 3 9;person 1;memory 0 1 5 0;memory 2 1 1 0;trap 2 1 1 0", stay), 0, 1, 1, NONE, NONE);
            best(Due.with("river 3 9;person 1;memory 0 1 5 0;memory 2 1 1 0;trap 1 1 1 0", stay), 0, 1, 1, 0, 5);
            best(Due.with("river 3 9;person 1;memory 0 1 6 0;memory 0 1 2 0;trap 1 1 1 0", stay), 0, 1, 1, 0, 2);
            best(Due.with("river 3 9;person 1;memory 0 1 6 0;memory 0 1 2 0;trap 0 1 1 0", stay), 0, 1, 1, 0, 2);
            best(Due.with("river 12 9;person 1;memory 11 1 7 0;trap 0 1 0 0", stay), 0, 40, 1, 11, 7);
            best(Due.with("river 12 9;person 1;memory 0 1 0 0;trap 11 1 7 0", stay), 0, 40, 1, 0, 0);
            best(Due.with("river 2 9;person 1;trap 0 1 0 0"), 0, 40, 0, NONE, NONE);
            best(Due.with("river 2 9;person 1;memory 0 2 0 0;trap 0 1 0 0", stay), 0, 40, 0, NONE, NONE);
            EelThroat x = Due.with("river 2 9;person 1" + ";memory 0 1 0 0".repeat(5) + ";memory 0 1 4 0"
                + ";trap 0 1 0 0".repeat(3) + ";trap 1 1 7 0", stay);
            best(x, 3, 1, 4, 0, 0);
            x.night();
            best(x, 3, 1, 4, 0, 0);
            // The TRAP sunk there takes what the other one would have, and no more are caught by that.
            best(Due.with("river 2 9;person 1;memory 0 1 0 0;trap 1 1 0 0;trap 0 1 0 0", stay), 0, 1, 1, NONE, NONE);
            // A BAIT that nobody smells may be best: two TRAPS in one POOL call it into the other one.
            best(Due.with("river 3 9;person 1;memory 1 2 3 0;trap 0 1 3 0;trap 2 9 3 0", "go 1 if traps = 2"), 0, 1, 1, 2, 0);
            best(Due.with("river 3 9;person 1;memory 1 2 0 0;trap 0 1 3 0;trap 2 9 0 0", "go 1 if traps = 2 and bait = 1"), 0, 1, 1, 2, 1);
            // Only both together, POOL and BAIT, are another way: neither alone is enough.
            best(Due.with("river 3 9;person 1;memory 2 1 3 0;trap 1 1 2 0", stay), 0, 1, 1, 2, 3);
        });
    }

    private static void lay() {
        String down = "river 2 9;person 1;memory 0 1 0 0";
        EDGE.of("LAY of a FREE MEMORY for n NIGHTS (1 to 40) and a POOL", () -> {
            EelThroat x = Due.with(down, "go pool if night = 39");
            EDGE.is("39", x.lay(0, 39, 1, 1), 2);
            EDGE.is("40", x.lay(0, 40, 1, 1), 3);
            EDGE.is("1", x.lay(0, 1, 0, 1), 1);
            EDGE.is("40, the other POOL", x.lay(0, 40, 0, 1), 0);
        });
        EDGE.of("POOLS in which it can be now, in place of where it is, all else as it is, so that it is FREE in that one then: "
            + "how many; as bits", () -> {
                EelThroat x = Due.with("river 12 9;person 1;memory 5 1 0 0");
                EDGE.is("all", x.lay(0, 40, 11, 0), 12);
                EDGE.is("all", x.lay(0, 40, 11, 1), 4095);
                EDGE.is("none", x.lay(0, 40, 10, 0), 0);
                EDGE.is("none", x.lay(0, 40, 10, 1), 0);
                EDGE.is("the one ahead", x.lay(0, 1, 1, 1), 1);
                EDGE.is("the last two", x.lay(0, 1, 11, 1), 3072);
                EDGE.is("where it is, too", x.lay(0, 6, 11, 1), 4064);
                x = Due.with("river 3 1;person 1;memory 0 1 0 0;memory 1 1 1 0;trap 1 1 0 0");
                EDGE.is("not in a TRAP, not at SEA", x.lay(0, 1, 1, 1), 0);
                EDGE.is("not at SEA", x.lay(0, 1, 2, 1), 2);
                x = Due.with("river 2 9;person 1;memory 0 1 0 0;memory 1 1 0 0", "go 1 if with = 0");
                EDGE.is("away from the other one", x.lay(0, 1, 0, 1), 3);
                EDGE.is("away from the other one", x.lay(0, 1, 1, 1), 0);
            });
        EDGE.of("LAY what 0: how many, 1: as bits. NONE without these (FREE)", () -> {
            for (int what = 0; what < 2; what++) {
                int asked = what;
                for (int m : Edge.outside(0, 4)) {
                    EDGE.refused("MEMORY " + m, x -> x.lay(m, 1, 0, asked), NONE);
                    EDGE.refused("POOL " + m, x -> x.lay(0, 1, m, asked), NONE);
                }
                for (int n : Edge.outside(1, 40)) {
                    EDGE.refused("n " + n, x -> x.lay(0, n, 0, asked), NONE);
                }
                for (int m = 1; m <= 3; m++) {
                    int other = m;
                    EDGE.refused("one that is not FREE", x -> x.lay(other, 1, 0, asked), NONE);
                }
                EDGE.without("lay", x -> x.lay(0, 1, 0, asked), NONE);
            }
            for (int what : Edge.outside(0, 1)) {
                EDGE.refused("what " + what, x -> x.lay(0, 1, 0, what), NONE);
            }
        });
    }

    private static void throats() {
        EDGE.of("THROATS of an empty TRAP for n NIGHTS (1 to 40): the least THROAT, 1 to 9, in place of what it is, "
            + "by which it is not empty then", () -> {
                EDGE.is("39", Edge.waiting(39).throats(0, 39), -2);
                EDGE.is("40", Edge.waiting(39).throats(0, 40), 4);
                EDGE.is("40", Edge.waiting(40).throats(0, 40), -2);
                EDGE.is("1", Edge.waiting(0).throats(0, 1), 4);
                for (int size = 1; size <= 9; size++) {
                    for (int throat = 1; throat <= 9; throat += 4) {
                        EelThroat x = Due.with("river 2 9;person 1;memory 0 " + size + " 0 0;trap 1 " + throat + " 0 0");
                        EDGE.is("SIZE " + size + " for " + throat, x.throats(0, 1), size);
                    }
                }
                EelThroat x = Due.with("river 2 9;person 1;memory 0 9 0 0;memory 0 6 0 0;trap 1 6 0 0;trap 1 1 0 0");
                // The first TRAP takes the smaller one; by 6 the second one gets none.
                EDGE.is("behind another TRAP", x.throats(1, 1), 9);
            });
        EDGE.of("THROATS; -2: by none; NONE without these (empty)", () -> {
            EDGE.is("none there", Due.with("river 2 9;person 1;trap 1 9 0 0").throats(0, 40), -2);
            for (int t : Edge.outside(0, 2)) {
                EDGE.refused("TRAP " + t, x -> x.throats(t, 1), NONE);
            }
            for (int n : Edge.outside(1, 40)) {
                EDGE.refused("n " + n, x -> x.throats(1, n), NONE);
            }
            EDGE.refused("not empty", x -> x.throats(0, 1), NONE);
            EDGE.without("throats", x -> x.throats(0, 1), NONE);
        });
    }

    /** Six MEMORIES of PERSON 1, of SIZES 1 to 6, all HAD by PERSON 0. */
    private static EelThroat six() {
        EelThroat x = Due.with("river 2 9;person 9;person 9;person 9;person 9;memory 0 1 0 1;memory 0 2 0 1;memory 0 3 0 1"
            + ";memory 0 4 0 1;memory 0 5 0 1;memory 0 6 0 1;trap 1 9 0 0");
        for (int i = 0; i < 6; i++) {
            x.night();
            x.lift(0);
        }
        return x;
    }

    private static void astray() {
        EDGE.of("ASTRAY: MEMORIES that are HAD by others than WHOSE they are, as bits", () -> {
            EelThroat x = six();
            EDGE.is("all six", x.astray(), 63);
            x.give(5, 1);
            EDGE.is("the last one right", x.astray(), 31);
            x.give(0, 3);
            EDGE.is("another who is not right", x.astray(), 31);
            x.free(0, 0);
            EDGE.is("one that is FREE", x.astray(), 30);
            x.night();
            EDGE.is("one in a TRAP", x.memory(0, 3) * 100 + x.astray(), 2030);
            for (int m = 1; m < 5; m++) {
                x.give(m, 1);
            }
            EDGE.is("none", x.astray(), 0);
            EDGE.is("nothing HAD", Edge.waiting(0).astray(), 0);
            EDGE.is("no MEMORIES", Due.with("river 2 9").astray(), 0);
            EDGE.is("at SEA", Due.with("river 2 1;person 1;memory 1 1 0 0").astray(), 0);
        });
        EDGE.of("ASTRAY, as bits; NONE without a RIVER", () -> EDGE.without("astray", x -> x.astray(), NONE));
    }

    /** MEMORY i is of whose[i] and HAD by who[i]. */
    private static EelThroat hands(int[] whose, int[] who) {
        StringBuilder text = new StringBuilder("river 2 9;person 9;person 9;person 9;person 9");
        for (int i = 0; i < whose.length; i++) {
            text.append(";memory 0 ").append(i + 1).append(" 0 ").append(whose[i]);
        }
        EelThroat x = Due.with(text.append(";trap 1 9 0 0").toString());
        for (int i = 0; i < whose.length; i++) {
            x.night();
            x.lift(0);
            x.give(i, who[i]);
        }
        return x;
    }

    private static void ringed(int[] whose, int[] who, int many, int largest) {
        EelThroat x = hands(whose, who);
        EDGE.is("how many", x.rings(0), many);
        EDGE.is("the largest", x.rings(1), largest);
    }

    private static void rings() {
        EDGE.of("RINGS: sets of two PEOPLE or more, in which of each one it is so that they HAVE a MEMORY of another one in the set, "
            + "and another one in the set HAS one of theirs: how many; the largest, of several the least as bits", () -> {
                ringed(new int[] {}, new int[] {}, 0, 0);
                ringed(new int[] {0}, new int[] {0}, 0, 0);
                ringed(new int[] {0, 1, 2, 3}, new int[] {0, 1, 2, 3}, 0, 0);
                ringed(new int[] {0}, new int[] {1}, 0, 0);
                ringed(new int[] {0, 1}, new int[] {1, 0}, 1, 3);
                ringed(new int[] {3, 2}, new int[] {2, 3}, 1, 12);
                ringed(new int[] {0, 3}, new int[] {3, 0}, 1, 9);
                ringed(new int[] {0, 1, 2}, new int[] {1, 2, 0}, 1, 7);
                ringed(new int[] {0, 1, 2, 3}, new int[] {1, 2, 3, 0}, 1, 15);
                ringed(new int[] {0, 1, 2, 3}, new int[] {1, 0, 3, 2}, 3, 15);
                // One of a chain HAS none of another, or another HAS none of theirs.
                ringed(new int[] {0, 1, 2}, new int[] {1, 2, 3}, 0, 0);
                ringed(new int[] {0, 1, 1}, new int[] {1, 0, 2}, 1, 3);
                ringed(new int[] {0, 1, 2}, new int[] {1, 0, 1}, 1, 3);
                ringed(new int[] {0, 1, 0, 2, 1, 2}, new int[] {1, 0, 2, 0, 2, 1}, 4, 7);
                // 0 with 1, 0 with 2, 0 with 3: all sets that 0 is in.
                ringed(new int[] {0, 1, 0, 2, 0, 3}, new int[] {1, 0, 2, 0, 3, 0}, 7, 15);
            });
        EDGE.of("1: the largest (0: there is none). NONE for others, or without a RIVER", () -> {
            EDGE.is("none", six().rings(1), 0);
            EDGE.is("no PEOPLE", Due.with("river 2 9").rings(0), 0);
            EDGE.is("no PEOPLE", Due.with("river 2 9").rings(1), 0);
            for (int what : Edge.outside(0, 1)) {
                EDGE.refused("what " + what, x -> x.rings(what), NONE);
            }
            EDGE.without("rings", x -> x.rings(0), NONE);
            EDGE.without("rings", x -> x.rings(1), NONE);
        });
    }

    private static void right() {
        EDGE.of("RIGHT: the fewest GIVES by which every MEMORY that is HAD is HAD by the one WHOSE it is, if by each GIVE one MEMORY goes; "
            + "of these GIVES the one of the least MEMORY: which; to whom", () -> {
            EelThroat x = six();
            EDGE.is("six", x.right(0), 6);
            EDGE.is("the least", x.right(1), 0);
            EDGE.is("to whom", x.right(2), 1);
            for (int m = 0; m < 5; m++) {
                x.give(m, 1);
            }
            EDGE.is("one", x.right(0), 1);
            EDGE.is("the last", x.right(1), 5);
            x = hands(new int[] {1, 3, 0}, new int[] {1, 0, 2});
            EDGE.is("two", x.right(0), 2);
            EDGE.is("the second", x.right(1), 1);
            EDGE.is("to the last PERSON", x.right(2), 3);
            x.give(1, 3);
            EDGE.is("to the first PERSON", x.right(2), 0);
        });
        EDGE.of("of the first (-2: none is needed). NONE for others, or without a RIVER", () -> {
            for (EelThroat x : new EelThroat[] {Due.with("river 2 9"), Edge.waiting(0), hands(new int[] {2}, new int[] {2})}) {
                EDGE.is("none", x.right(0), 0);
                EDGE.is("none", x.right(1), -2);
                EDGE.is("none", x.right(2), -2);
            }
            for (int what : Edge.outside(0, 2)) {
                EDGE.refused("what " + what, x -> x.right(what), NONE);
            }
            for (int what = 0; what < 3; what++) {
                int asked = what;
                EDGE.without("right", x -> x.right(asked), NONE);
            }
        });
    }

    private static void rested(EelThroat x, int n, int many, int one, int other) {
        EDGE.is("how many in " + n, x.rests(0, 1, n, 0), many);
        EDGE.is("the first one's in " + n, x.rests(0, 1, n, 1), one);
        EDGE.is("the second one's in " + n, x.rests(0, 1, n, 2), other);
    }

    private static void rests() {
        String two = "river 2 9;person 1;memory 0 4 3 0;trap 1 9 0 0;trap 1 9 0 0";
        EDGE.of("RESTS of two empty TRAPS for n NIGHTS (1 to 20): each has a BAIT of 0, 1, .. or 7 from now on, all else as it is", () -> {
            rested(Due.with(two, "go pool if night = 19"), 19, 64, 0, 0);
            rested(Due.with(two, "go pool if night = 19"), 20, 8, 3, 0);
            rested(Due.with(two, "go pool if night = 20"), 20, 64, 0, 0);
            rested(Due.with(two, "go pool if night = 0"), 1, 8, 3, 0);
            rested(Due.with(two.replace(" 4 3 ", " 4 7 ")), 1, 8, 7, 0);
            rested(Due.with(two.replace(" 4 3 ", " 4 0 ")), 1, 8, 0, 0);
            // The first one, too narrow, gets none: the second one's BAIT alone tells.
            rested(Due.with(two.replaceFirst("trap 1 9", "trap 1 3")), 1, 8, 0, 3);
            EDGE.is("the other way round", Due.with(two).rests(1, 0, 1, 1), 0);
            EDGE.is("the other way round", Due.with(two).rests(1, 0, 1, 2), 3);
        });
        EDGE.of("each has the SIZE of what is in it then (0 if it is empty): twos of which neither would have more by another BAIT: how many; "
            + "the first (by the first one, then the second one)", () -> {
            // SIZES 9 and 8 of two SMELLS: 5 and 2 for the first and the second one, and no others.
            rested(Due.with("river 2 9;person 1;memory 0 9 5 0;memory 0 8 2 0;trap 1 9 0 0;trap 1 9 0 0"), 1, 1, 5, 2);
            // Alike in SIZE: the first one by both, the second one by the other one of both.
            rested(Due.with("river 2 9;person 1;memory 0 8 5 0;memory 0 8 2 0;trap 1 9 0 0;trap 1 9 0 0"), 1, 2, 2, 5);
        });
        EDGE.of("BAIT of the first (-2: there is none). NONE without these (unlike, empty)", () -> {
            String none = "river 2 9;person 1;memory 0 5 0 0;memory 1 2 1 0;memory 0 1 0 0;memory 1 1 0 0;trap 1 9 7 0;trap 0 8 7 0";
            rested(Due.with(none, "go 1 if pool < from and bait = 1;go 1 if pool > from and bait = 0"), 1, 0, -2, -2);
            for (int what = 0; what < 3; what++) {
                int asked = what;
                for (int n : Edge.outside(1, 20)) {
                    EDGE.refused("n " + n, x -> x.rests(1, 2, n, asked), NONE);
                }
                for (int t : Edge.outside(0, 2)) {
                    EDGE.refused("TRAP " + t + " first", x -> x.rests(t, 1, 1, asked), NONE);
                    EDGE.refused("TRAP " + t + " second", x -> x.rests(1, t, 1, asked), NONE);
                }
                EDGE.refused("alike", x -> x.rests(1, 1, 1, asked), NONE);
                EDGE.refused("the first one not empty", x -> x.rests(0, 1, 1, asked), NONE);
                EDGE.refused("the second one not empty", x -> x.rests(1, 0, 1, asked), NONE);
                EDGE.without("rests", x -> x.rests(0, 1, 1, asked), NONE);
            }
            for (int what : Edge.outside(0, 2)) {
                EDGE.refused("what " + what, x -> x.rests(1, 2, 1, what), NONE);
            }
        });
    }

    private static void round(Supplier<EelThroat> made, int nights, int night, int later) {
        EelThroat x = made.get();
        Due.nights(x, nights);
        EDGE.is("the NIGHT", x.cycle(0), night);
        EDGE.is("how much later", x.cycle(1), later);
    }

    /** MEMORY 0 goes eleven POOLS down and up again and MEMORY 1 one down each time: never as before, up to a NIGHT, then all stay. */
    private static EelThroat winding(int stop) {
        return Due.with("river 12 9;person 1;memory 0 1 0 0;memory 0 1 1 0", "go 0 if night >= " + stop
            + ";go 1 if memory = 1 and pool > from and night % 11 = 10;go 0 if memory = 1"
            + ";go 1 if pool > from and night / 11 % 2 = 0;go 1 if pool < from and night / 11 % 2 = 1");
    }

    /** Down in one NIGHT and up in another one; so many moons. */
    private static EelThroat downAndUp(int moons, int down, int up) {
        return Due.with("river 2 9" + ";moon 1".repeat(moons) + ";person 1;memory 0 1 0 0",
            "go pool if night = " + down + ";go 1 if pool = 0 and night = " + up);
    }

    private static void cycle() {
        EDGE.of("CYCLE: the first NIGHT, this one the first, of 60, at whose begin all MEMORIES are where they are at the begin of "
            + "a later one, and the same NIGHT comes round, 60 NIGHTS from now at most; how much later the first such is", () -> {
                round(() -> winding(0), 0, 0, 1);
                round(() -> winding(1), 0, 1, 1);
                round(() -> winding(58), 0, 58, 1);
                round(() -> winding(59), 0, 59, 1);
                round(() -> winding(60), 0, -2, -2);
                round(() -> winding(60), 1, 60, 1);
                round(() -> winding(61), 1, -2, -2);
                round(() -> winding(10), 30, 30, 1);
                // In NIGHT 0 as 60 NIGHTS later, in none between of those that come round alike.
                round(() -> downAndUp(12, 0, 59), 0, 0, 60);
                round(() -> downAndUp(12, 0, 60), 0, 1, 12);
                round(() -> downAndUp(12, 0, 47), 0, 0, 48);
                round(() -> downAndUp(12, 0, 48), 0, 0, 60);
                round(() -> downAndUp(1, 0, 59), 0, 0, 60);
                round(() -> downAndUp(1, 0, 60), 0, 1, 1);
                round(() -> downAndUp(0, 99, 99), 0, 0, 1);
                round(() -> downAndUp(2, 99, 99), 0, 0, 2);
                round(() -> downAndUp(12, 99, 99), 0, 0, 12);
                round(() -> downAndUp(12, 99, 99), 5, 5, 12);
                // As far as the last twelve NIGHTS are alike.
                EelThroat x = Due.with("river 12 9" + ";moon 1".repeat(12) + ";person 1;memory 0 1 0 0;memory 0 1 1 0",
                    "go 1 if pool > from and memory = 0 and night % 10 = 9 and night < 50;go 0");
                EDGE.is("NIGHT 50 would be as NIGHT 62", x.cycle(0), -2);
                x.night();
                x.night();
                EDGE.is("NIGHT 50 is as NIGHT 62", 100 * x.cycle(0) + x.cycle(1), 5012);
            });
        EDGE.of("CYCLE what 0: the NIGHT, 1: how much later; -2: there is none. NONE for others, or without a RIVER", () -> {
            round(() -> Due.with("river 2 9"), 0, 0, 1);
            round(() -> Due.with("river 2 9" + ";moon 1".repeat(12)), 3, 3, 12);
            for (int what : Edge.outside(0, 1)) {
                EDGE.refused("what " + what, x -> x.cycle(what), NONE);
            }
            EDGE.without("cycle", x -> x.cycle(0), NONE);
            EDGE.without("cycle", x -> x.cycle(1), NONE);
        });
    }

    private static void parted(int[] whose, int much, int... parts) {
        EelThroat x = hands(whose, whose);
        for (int p = 0; p < 4; p++) {
            EDGE.is(much + " for PERSON " + p, x.pence(much, p), parts[p]);
        }
    }

    private static void pence() {
        EDGE.of("each the part downwards; what is left, one each, to those whose part lost most by that, of several the least first "
            + "(nothing, if nobody HAS any)", () -> {
                // SIZES are 1, 2, 3 and so on.
                int[] four = {0, 1, 2, 3};
                parted(four, 0, 0, 0, 0, 0);
                parted(four, 1, 0, 0, 0, 1);
                parted(four, 10, 1, 2, 3, 4);
                parted(four, 9999, 1000, 2000, 3000, 3999);
                // 0.5, 1, 1.5, 2: of both that lost a half the least.
                parted(four, 5, 1, 1, 1, 2);
                parted(new int[] {3, 3, 0}, 1, 1, 0, 0, 0);
                parted(new int[] {3, 3, 0}, 2, 1, 0, 0, 1);
                parted(new int[] {3, 3, 0}, 9999, 5000, 0, 0, 4999);
                parted(new int[] {2}, 9999, 0, 0, 9999, 0);
                // 5, 5, 5 of 15, and 6 of 21.
                parted(new int[] {0, 1, 2, 1, 0}, 1, 1, 0, 0, 0);
                parted(new int[] {0, 1, 2, 2, 1, 0}, 2, 1, 1, 0, 0);
                parted(new int[] {}, 9999, 0, 0, 0, 0);
                EDGE.is("nobody HAS any", Edge.waiting(0).pence(9999, 0), 0);
            });
        EDGE.of("PENCE (0 to 9999) among PEOPLE by SIZES of what they HAVE, together", () -> {
            EelThroat x = six();
            EDGE.is("all to one", x.pence(9999, 0), 9999);
            EDGE.is("none to another", x.pence(9999, 3), 0);
            x.free(5, 0);
            EDGE.is("what is FREE does not count", x.pence(15, 0), 15);
            x.give(4, 2);
            EDGE.is("10 of 15", x.pence(15, 0), 10);
            EDGE.is("5 of 15", x.pence(15, 2), 5);
        });
        EDGE.of("PENCE of a PERSON; NONE without these", () -> {
            for (int much : Edge.outside(0, 9999)) {
                EDGE.refused(much + " pence", x -> x.pence(much, 0), NONE);
            }
            for (int who : Edge.outside(0, 2)) {
                EDGE.refused("PERSON " + who, x -> x.pence(5, who), NONE);
            }
            EDGE.without("pence", x -> x.pence(0, 0), NONE);
            EDGE.is("no PEOPLE", Due.with("river 2 9").pence(0, 0), NONE);
        });
    }
}
