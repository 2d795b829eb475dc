import java.util.function.ToIntFunction;

/** The edges that the document names for NIGHTS and the other ACTS, promises 11 to 16. */
public final class NightEdgeTest {
    private static final int NONE = EelThroat.NONE;
    private static final int SEA = -1;
    private static final Edge EDGE = new Edge("NightEdgeTest");

    public static void main(String[] args) {
        places();
        goals();
        sums();
        sea();
        traps();
        lastNight();
        night();
        lift();
        sink();
        free();
        give();
        twenty();
        undo();
        EDGE.close();
    }

    /** Where MEMORY 0 is behind one NIGHT. */
    private static void goes(String river, String rule, int to) {
        EelThroat x = rule.isEmpty() ? Due.with(river) : Due.with(river, rule);
        x.night();
        EDGE.is("by '" + rule + "' in '" + river + "'", x.memory(0, 3), to);
    }

    private static String one(int pools, int pool) {
        return "river " + pools + " 9;person 1;memory " + pool + " 1 0 0";
    }

    private static void places() {
        EDGE.of("A MEMORY is FREE in a POOL, in a TRAP, HAD by a PERSON, or at SEA, for good", () -> {
            EelThroat x = Edge.rich();
            EDGE.is("FREE", x.memory(0, 3), 2);
            EDGE.is("in a TRAP", x.memory(1, 3), 20);
            EDGE.is("at SEA", x.memory(2, 3), SEA);
            EDGE.is("HAD", x.memory(3, 3), 30);
            EDGE.is("FREE", x.memory(4, 3), 3);
            EDGE.is("at SEA ahead", x.ahead(2, 100), SEA);
            Due.nights(x, 30);
            EDGE.is("in a TRAP for all NIGHTS", x.memory(1, 3), 20);
            EDGE.is("at SEA for all NIGHTS", x.memory(2, 3), SEA);
            EDGE.is("HAD for all NIGHTS", x.memory(3, 3), 30);
            EDGE.is("not FREE again", x.free(2, 0), NONE);
            EDGE.is("not given", x.give(2, 1), NONE);
            x = Due.with("river 12 9;person 9;person 9;person 9;person 9;memory 11 1 0 0" + ";trap 0 1 7 0".repeat(3) + ";trap 11 1 0 3");
            EDGE.is("the last POOL", x.memory(0, 3), 11);
            x.night();
            EDGE.is("the last TRAP", x.memory(0, 3), 23);
            x.lift(3);
            EDGE.is("the last PERSON", x.memory(0, 3), 33);
        });
        EDGE.of("FREE MEMORIES all at once, by how all is as the NIGHT begins", () -> {
            EelThroat x = Due.with("river 2 9;person 1;memory 0 1 0 0;memory 1 1 1 0", "go with");
            x.night();
            EDGE.is("each to where the other one was", 10 * x.memory(0, 3) + x.memory(1, 3), 10);
            x = Due.with("river 2 9;person 1;memory 1 1 0 0;memory 0 1 0 0;trap 1 1 0 0", "go bait + 0 if memory = 1;go 1 if pool = from");
            EDGE.is("the TRAP takes the first one", x.night(), 1);
            EDGE.is("the other one came, for it was empty", x.memory(1, 3), 1);
            x.night();
            EDGE.is("it stays, for it is not", x.memory(1, 3), 1);
            // Nobody goes in NIGHT 0, but one into a TRAP; in NIGHT 1 another one goes by that.
            x = Due.with("river 2 9;person 1;memory 1 1 0 0;memory 0 1 0 0;trap 1 1 0 0",
                "go 2 if memory = 1 and pool = 1 and bait = 0;go 1 if pool = from");
            EDGE.is("behind one NIGHT", x.ahead(1, 1), 0);
            EDGE.is("behind two NIGHTS", x.ahead(1, 2), 1);
            EDGE.is("behind a hundred", x.ahead(1, 100), 1);
        });
    }

    private static void goals() {
        EDGE.of("each goes to that POOL, of the one ahead of its own, its own, and the one behind (those there are)", () -> {
            for (int pools = 2; pools <= 12; pools += 5) {
                for (int from = 0; from < pools; from++) {
                    goes(one(pools, from), "go pool + 1", Math.min(from + 1, pools - 1));
                    goes(one(pools, from), "go 20 - pool", Math.max(from - 1, 0));
                    goes(one(pools, from), "go 1 if pool = from", from);
                    goes(one(pools, from), "go 1 if pool > from + 1 or pool + 1 < from", from);
                    // None ahead of the highest one, and none behind the last one.
                    goes(one(pools, from), "go 1 if not [pool >= 0 and pool < " + pools + "]", from);
                }
            }
        });
        EDGE.of("is greatest, if it is above 0, of several the least (none: it stays)", () -> {
            goes(one(3, 1), "go 1 if pool = 0", 0);
            goes(one(3, 1), "go 1 if pool = 2", 2);
            goes(one(3, 1), "go 0", 1);
            goes(one(3, 1), "go 0 - 1 if pool = 1;go 0", 1);
            goes(one(3, 1), "go 0 - 5 + pool", 1);
            goes(one(3, 1), "go pool - 1", 2);
            goes(one(3, 1), "go pool - 2", 1);
            goes(one(3, 1), "go 1 - pool", 0);
            goes(one(3, 1), "go 0 - pool", 1);
            goes(one(3, 1), "go 7", 0);
            goes(one(3, 1), "go 7 if pool > 0", 1);
            goes(one(3, 1), "go 7 if not pool = 1", 0);
            goes(one(3, 1), "go 7 if pool < 2;go 8", 2);
            goes(one(3, 1), "go 8 if pool = 1;go 7", 1);
            goes(one(3, 0), "go 7", 0);
            goes(one(3, 2), "go 7", 1);
        });
        EDGE.of("without a RULE one POOL down, in the last one it stays", () -> {
            for (int from = 0; from < 12; from++) {
                goes(one(12, from), "", Math.min(11, from + 1));
            }
            goes(one(2, 0), "", 1);
            goes(one(2, 1), "", 1);
        });
    }

    private static void sums() {
        EDGE.of("the SUM of the RULE IN FORCE's first CLAUSE without a TEST, or whose TEST holds (0 without)", () -> {
            goes(one(3, 1), "go 5 if pool = 2;go 9 if pool = 2;go 1 if pool = 0", 2);
            goes(one(3, 1), "go 1 if pool = 2;go 9 if pool = 2;go 2 if pool = 0", 0);
            goes(one(3, 1), "go 1 if pool = 9;go 2 if pool = 2", 2);
            goes(one(3, 1), "go 1 if pool = 9;go 2 if pool = 9", 1);
            goes(one(3, 1), "go 0;go 9 if pool = 2", 1);
            goes(one(3, 1), "go 0 if pool = 2;go 9", 0);
            goes(one(3, 1), "go 0 - 9 if pool < 2;go 1", 2);
            EelThroat x = Due.with(one(3, 1), "go pool", "go 9 - pool");
            EDGE.is("the one IN FORCE", x.ahead(0, 1), 0);
            x.force(0);
            EDGE.is("the one IN FORCE", x.ahead(0, 1), 2);
            x.force(NONE);
            EDGE.is("none", x.ahead(0, 1), 2);
        });
    }

    private static void sea() {
        EDGE.of("One of SIZE BIG or more that was in the last POOL as the NIGHT began, and stays there, is at SEA", () -> {
            for (int size = 1; size <= 9; size++) {
                goes("river 2 5;person 1;memory 1 " + size + " 0 0", "", size >= 5 ? SEA : 1);
                goes("river 2 5;person 1;memory 1 " + size + " 0 0", "go 0", size >= 5 ? SEA : 1);
                goes("river 2 5;person 1;memory 1 " + size + " 0 0", "go pool", size >= 5 ? SEA : 1);
            }
            goes("river 2 1;person 1;memory 1 1 0 0", "", SEA);
            goes("river 2 9;person 1;memory 1 8 0 0", "", 1);
            goes("river 2 9;person 1;memory 1 9 0 0", "", SEA);
            goes("river 12 9;person 1;memory 11 9 0 0", "", SEA);
            goes("river 12 9;person 1;memory 10 9 0 0", "", 11);
            goes("river 12 9;person 1;memory 10 9 0 0", "go 0", 10);
            goes("river 2 1;person 1;memory 1 9 0 0", "go 1 if pool = 0", 0);
            goes("river 2 1;person 1;memory 0 9 0 0", "go 1 if pool = 0", 0);
            EelThroat x = Due.with("river 2 1;person 1;memory 0 9 0 0");
            x.night();
            EDGE.is("it came", x.memory(0, 3), 1);
            x.night();
            EDGE.is("it was there", x.memory(0, 3), SEA);
            x = Due.with("river 2 1;person 9;memory 1 9 0 0;memory 0 9 1 0;trap 1 9 0 0;trap 1 9 1 0");
            EDGE.is("at SEA it goes into no TRAP", x.night(), 2);
            EDGE.is("at SEA", x.count(10), 1);
            EDGE.is("the TRAP is empty", x.trap(0, 4), NONE);
            x.lift(1);
            x.free(1, 1);
            x.sink(1, 0, 1);
            x.night();
            EDGE.is("put back into the last POOL it was there", x.count(10), 3);
        });
    }

    private static void traps() {
        EDGE.of("TRAPS by numbers, that are empty: into each goes the least FREE MEMORY in its POOL whose SMELL is its BAIT, "
            + "and whose SIZE is its THROAT or less", () -> {
                for (int size = 1; size <= 9; size++) {
                    for (int throat = 1; throat <= 9; throat++) {
                        String river = "river 2 9;person 1;memory 0 " + size + " 7 0;trap 1 " + throat + " 7 0";
                        EDGE.is("'" + river + "'", Due.with(river).night(), size <= throat ? 1 : 0);
                    }
                }
                for (int smell = 0; smell <= 7; smell++) {
                    for (int bait = 0; bait <= 7; bait++) {
                        String river = "river 2 9;person 1;memory 0 1 " + smell + " 0;trap 1 9 " + bait + " 0";
                        EDGE.is("'" + river + "'", Due.with(river).night(), smell == bait ? 1 : 0);
                    }
                }
                EDGE.is("another POOL", Due.with("river 3 9;person 1;memory 0 1 0 0;trap 0 9 0 0;trap 2 9 0 0").night(), 0);
                EelThroat x = Due.with("river 2 9;person 1" + ";memory 0 1 0 0".repeat(6) + ";trap 1 9 0 0".repeat(4));
                EDGE.is("four of six", x.night(), 15);
                for (int t = 0; t < 4; t++) {
                    EDGE.is("by numbers", x.trap(t, 4), t);
                }
                EDGE.is("none is empty", x.night(), 0);
                x = Due.with("river 2 9;person 1" + ";memory 0 9 0 0".repeat(5) + ";memory 0 1 0 0;trap 1 8 0 0;trap 1 9 0 0");
                EDGE.is("the least whose SIZE is so, which is the last", x.night(), 33);
                EDGE.is("the first TRAP", x.trap(0, 4), 5);
                EDGE.is("the second TRAP", x.trap(1, 4), 0);
                x = Due.with("river 2 9;person 9;memory 0 1 0 0;memory 0 1 0 0;trap 1 9 0 0");
                EDGE.is("one a NIGHT", x.night(), 1);
                EDGE.is("not empty", x.night(), 0);
                x.lift(0);
                EDGE.is("empty again", x.night(), 2);
                EDGE.is("none there", Due.with("river 2 9;person 1;trap 1 9 0 0").night(), 0);
                EDGE.is("no TRAPS", Due.with("river 2 9;person 1;memory 0 1 0 0").night(), 0);
                x = Due.with("river 2 9;person 9;memory 0 1 0 0;trap 1 9 0 0;trap 1 9 1 0");
                x.night();
                x.lift(0);
                x.give(0, 0);
                EDGE.is("one that is HAD", x.night(), 0);
            });
    }

    private static EelThroat atNight(int night) {
        EelThroat x = Due.with("river 3 9;moon 1;moon 2;moon 3;moon 4;person 1;memory 0 1 0 0",
            "go pool if night = 998 or night = 1000;go 1 if pool = from");
        Due.nights(x, night);
        return x;
    }

    private static void lastNight() {
        EDGE.of("NIGHT is 1 more (999 at most by hand; NIGHTS that are asked go on beyond)", () -> {
            EDGE.is("the first", atNight(1).count(8), 1);
            EelThroat x = atNight(998);
            EDGE.is("NIGHT 998", x.count(8), 998);
            EDGE.is("it stayed", x.memory(0, 3), 0);
            EDGE.is("a NIGHT", x.night(), 0);
            EDGE.is("NIGHT 999", x.count(8), 999);
            EDGE.is("it went", x.memory(0, 3), 1);
            EDGE.is("none in NIGHT 999", x.night(), NONE);
            EDGE.is("NIGHT 999", x.count(8), 999);
            EDGE.is("asked, NIGHT 999", x.ahead(0, 1), 1);
            EDGE.is("asked, NIGHT 1000", x.ahead(0, 2), 2);
            EDGE.is("asked, NIGHT 1098", x.ahead(0, 100), 2);
            EDGE.is("UNDONE", x.undo(), 19);
            EDGE.is("NIGHT 998", x.count(8), 998);
            EDGE.is("a NIGHT again", x.night(), 0);
            EDGE.is("NIGHT 999", x.count(8), 999);
        });
    }

    private static void night() {
        EDGE.of("NONE, and nothing happens, without a RIVER, or in NIGHT 999", () -> {
            EDGE.without("night", x -> x.night(), NONE);
            EDGE.still("in NIGHT 999", () -> atNight(999), x -> x.night(), NONE);
        });
        EDGE.of("A NIGHT: MEMORIES that go into TRAPS in it, as bits", () -> {
            EDGE.is("none", Due.with("river 2 9").night(), 0);
            EelThroat x = Due.with("river 2 9;person 1" + ";memory 0 1 0 0".repeat(2) + ";memory 0 1 1 0".repeat(4) + ";trap 1 1 1 0".repeat(4));
            EDGE.is("the last four", x.night(), 60);
            EDGE.is("not those that were in them", x.night(), 0);
            EDGE.is("an ACT each", x.count(12), 2);
        });
    }

    private static EelThroat strong(int size) {
        EelThroat x = Due.with("river 2 9;person 9;person 4;memory 0 " + size + " 3 0;memory 0 " + size + " 4 0;trap 1 9 3 1");
        x.night();
        return x;
    }

    private static void lift() {
        EDGE.of("LIFT (a TRAP with a MEMORY in it, of SIZE up to what its KEEPER is STRONG: the KEEPER HAS that; "
            + "it is sunk again there, empty, with its BAIT)", () -> {
                for (int size = 1; size <= 4; size++) {
                    EelThroat x = strong(size);
                    EDGE.is("SIZE " + size, x.lift(0), 0);
                    EDGE.is("HAD", x.memory(0, 3), 31);
                    EDGE.is("sunk there", x.trap(0, 0), 1);
                    EDGE.is("its BAIT", x.trap(0, 2), 3);
                    EDGE.is("empty", x.trap(0, 4), NONE);
                    EDGE.is("an ACT", x.count(12), 2);
                }
                for (int size = 5; size <= 9; size++) {
                    int its = size;
                    EDGE.still("SIZE " + size, () -> strong(its), x -> x.lift(0), NONE);
                }
            });
        EDGE.of("LIFT: which MEMORY; NONE, and nothing happens, without these", () -> {
            for (int trap : Edge.outside(0, 2)) {
                EDGE.refused("lift(" + trap + ")", x -> x.lift(trap), NONE);
            }
            EDGE.refused("an empty one", x -> x.lift(1), NONE);
            EDGE.refused("an empty one, the last", x -> x.lift(2), NONE);
            EDGE.without("lift", x -> x.lift(0), NONE);
            EelThroat x = Edge.rich();
            EDGE.is("one with MEMORY 1", x.lift(0), 1);
            EDGE.is("again", x.lift(0), NONE);
            EDGE.is("who HAS it", x.person(1), 2);
            x = Due.with("river 2 9;person 9;memory 0 1 0 0;trap 1 1 7 0;trap 1 1 7 0;trap 1 1 7 0;trap 1 1 0 0");
            x.night();
            EDGE.is("the last of four", x.lift(3), 0);
        });
    }

    private static void sink() {
        EDGE.of("SINK (an empty TRAP is in another POOL, or has another BAIT, or both)", () -> {
            for (int pool = 0; pool < 5; pool++) {
                for (int bait = 0; bait < 8; bait++) {
                    EelThroat x = Edge.rich();
                    boolean as = pool == 2 && bait == 4;
                    EDGE.is("sink(1, " + pool + ", " + bait + ")", x.sink(1, pool, bait), as ? NONE : 8 * 2 + 4);
                    EDGE.is("POOL", x.trap(1, 0), pool);
                    EDGE.is("BAIT", x.trap(1, 2), bait);
                    EDGE.is("an ACT", x.count(12), as ? 4 : 5);
                }
            }
        });
        EDGE.of("8 times the POOL it was in, and its BAIT; NONE, and nothing happens, without these (otherwise than it is)", () -> {
            EDGE.refused("as it is", x -> x.sink(1, 2, 4), NONE);
            EDGE.refused("as it is", x -> x.sink(2, 3, 6), NONE);
            EDGE.refused("not empty", x -> x.sink(0, 0, 0), NONE);
            EDGE.without("sink", x -> x.sink(0, 0, 0), NONE);
            for (int n : Edge.outside(0, 2)) {
                EDGE.refused("TRAP " + n, x -> x.sink(n, 0, 0), NONE);
            }
            for (int n : Edge.outside(0, 4)) {
                EDGE.refused("POOL " + n, x -> x.sink(1, n, 0), NONE);
            }
            for (int n : Edge.outside(0, 7)) {
                EDGE.refused("BAIT " + n, x -> x.sink(1, 0, n), NONE);
            }
            EelThroat x = Due.with("river 12 9;person 1" + ";trap 11 1 7 0".repeat(4));
            EDGE.is("the most", x.sink(3, 0, 0), 95);
            EDGE.is("the least", x.sink(3, 11, 7), 0);
        });
    }

    private static void free() {
        EDGE.of("FREE (a MEMORY that is HAD is FREE in a POOL)", () -> {
            for (int pool = 0; pool < 5; pool++) {
                EelThroat x = Edge.rich();
                EDGE.is("free(3, " + pool + ")", x.free(3, pool), 0);
                EDGE.is("FREE there", x.memory(3, 3), pool);
                EDGE.is("nobody HAS it", x.person(0), 0);
                EDGE.is("an ACT", x.count(12), 5);
            }
            EelThroat x = Due.with("river 2 9;person 9;person 9;person 9;person 9" + ";memory 0 1 7 0".repeat(5) + ";memory 0 1 0 0;trap 1 1 0 3");
            x.night();
            x.lift(0);
            EDGE.is("the last of six, of the last of four", x.free(5, 0), 3);
        });
        EDGE.of("FREE: who HAD it; NONE, and nothing happens, without these", () -> {
            EDGE.refused("one that is FREE", x -> x.free(0, 1), NONE);
            EDGE.refused("one in a TRAP", x -> x.free(1, 1), NONE);
            EDGE.refused("one at SEA", x -> x.free(2, 1), NONE);
            EDGE.without("free", x -> x.free(0, 0), NONE);
            for (int n : Edge.outside(0, 4)) {
                EDGE.refused("MEMORY " + n, x -> x.free(n, 0), NONE);
                EDGE.refused("POOL " + n, x -> x.free(3, n), NONE);
            }
        });
    }

    private static void give() {
        EDGE.of("GIVE (a MEMORY that is HAD another PERSON HAS)", () -> {
            for (int who = 1; who < 3; who++) {
                EelThroat x = Edge.rich();
                EDGE.is("give(3, " + who + ")", x.give(3, who), 0);
                EDGE.is("who HAS it", x.memory(3, 3), 30 + who);
                EDGE.is("who HAS it", x.person(who), 8);
                EDGE.is("an ACT", x.count(12), 5);
                EDGE.is("to the one who HAS it", x.give(3, who), NONE);
                EDGE.is("no ACT", x.count(12), 5);
                EDGE.is("back again", x.give(3, 0), who);
            }
        });
        EDGE.of("GIVE: who HAD it; NONE, and nothing happens, without these (another one)", () -> {
            EDGE.refused("one that is FREE", x -> x.give(0, 1), NONE);
            EDGE.refused("one in a TRAP", x -> x.give(1, 2), NONE);
            EDGE.refused("one at SEA", x -> x.give(2, 1), NONE);
            EDGE.refused("to the one who HAS it", x -> x.give(3, 0), NONE);
            EDGE.without("give", x -> x.give(0, 0), NONE);
            for (int n : Edge.outside(0, 4)) {
                EDGE.refused("MEMORY " + n, x -> x.give(n, 1), NONE);
            }
            for (int n : Edge.outside(0, 2)) {
                EDGE.refused("PERSON " + n, x -> x.give(3, n), NONE);
            }
        });
    }

    /** So many ACTS, of which each sinks the TRAP a BAIT on. */
    private static EelThroat sunk(int acts) {
        EelThroat x = Due.with("river 2 9;person 1;trap 0 1 0 0");
        for (int i = 1; i <= acts; i++) {
            x.sink(0, i / 8 % 2, i % 8);
        }
        return x;
    }

    private static void twenty() {
        EDGE.of("The last 20 can be UNDONE, the last first", () -> {
            for (int acts : new int[] {0, 1, 2, 19, 20, 21, 22, 39, 40, 41, 45}) {
                EelThroat x = sunk(acts);
                int many = Math.min(20, acts);
                EDGE.is("behind " + acts, x.count(12), many);
                for (int left = many - 1; left >= 0; left--) {
                    EDGE.is("behind " + acts, x.undo(), left);
                    int at = acts - many + left;
                    EDGE.is("as it was", 8 * x.trap(0, 0) + x.trap(0, 2), 8 * (at / 8 % 2) + at % 8);
                    EDGE.is("how many", x.count(12), left);
                }
                EDGE.is("no more", x.undo(), NONE);
                EDGE.is("no more", x.count(12), 0);
            }
            EelThroat x = sunk(25);
            for (int i = 0; i < 10; i++) {
                x.undo();
            }
            Due.nights(x, 12);
            EDGE.is("ten and twelve", x.count(12), 20);
            for (int i = 19; i >= 0; i--) {
                EDGE.is("undo", x.undo(), i);
            }
            EDGE.is("NIGHT", x.count(8), 0);
            EDGE.is("behind the seventh", 8 * x.trap(0, 0) + x.trap(0, 2), 7);
            EDGE.is("no more", x.undo(), NONE);
        });
        EDGE.of("ACTS: a NIGHT; LIFT", () -> {
            noAct("force", x -> x.force(0));
            noAct("seed", x -> x.seed(7));
            noAct("note", x -> x.note(0, 0, 0));
            noAct("note", x -> x.note(NONE, 0, 0));
            noAct("image", x -> x.image(3));
            noAct("feed", x -> x.feed(1, 2, 3, 4, 5));
            noAct("end", x -> x.end(3));
            noAct("rule", x -> Due.rule(x, "go 1"));
        });
    }

    private static void noAct(String call, ToIntFunction<EelThroat> made) {
        EelThroat x = Edge.rich();
        made.applyAsInt(x);
        EDGE.is(call + " is no ACT", x.count(12), 4);
        EDGE.is(call + " is not UNDONE", x.undo(), 3);
        EDGE.is("the NIGHT is", x.count(8), 1);
    }

    private static void undo() {
        EDGE.of("The last ACT is UNDONE: how many more can be; NONE, and nothing happens: none can", () -> {
            EDGE.without("undo", x -> x.undo(), NONE);
            EDGE.still("none yet", () -> Due.with("river 2 9;person 1;memory 0 1 0 0"), x -> x.undo(), NONE);
            EDGE.still("none more", () -> {
                EelThroat x = Edge.rich();
                for (int i = 0; i < 4; i++) {
                    x.undo();
                }
                return x;
            }, x -> x.undo(), NONE);
            EDGE.still("behind an IMAGE", () -> {
                EelThroat x = Edge.rich();
                x.back(2);
                return x;
            }, x -> x.undo(), NONE);
            EelThroat x = Edge.rich();
            x.force(0);
            x.seed(99);
            x.note(NONE, 0, 0);
            EDGE.is("a NIGHT", x.undo(), 3);
            EDGE.is("NIGHT 1", x.count(8), 1);
            EDGE.is("FREE where it was", x.memory(0, 3), 1);
            EDGE.is("a SINK", x.undo(), 2);
            EDGE.is("where it was", x.trap(2, 0), 4);
            EDGE.is("a LIFT", x.undo(), 1);
            EDGE.is("in the TRAP", x.memory(3, 3), 21);
            EDGE.is("in the TRAP", x.trap(1, 4), 3);
            EDGE.is("the first NIGHT", x.undo(), 0);
            EDGE.is("FREE", x.count(9), 31);
            EDGE.is("none at SEA", x.count(10), 0);
            EDGE.is("in no TRAP", x.trap(0, 4) + x.trap(1, 4), -2);
            EDGE.is("the RULE IN FORCE is no ACT", x.count(7), 0);
            EDGE.is("x is no ACT", x.count(13), 99);
            EDGE.is("NOTES are no ACTS", x.count(11), 0);
            EDGE.is("the TAPE is none", x.count(14), 33);
            x = Edge.rich();
            x.free(3, 4);
            EDGE.is("a FREE", x.undo(), 4);
            EDGE.is("HAD", x.memory(3, 3), 30);
            x.give(3, 2);
            EDGE.is("a GIVE", x.undo(), 4);
            EDGE.is("HAD", x.memory(3, 3), 30);
        });
    }
}
