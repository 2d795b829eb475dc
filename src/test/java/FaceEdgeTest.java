/** The edges that the document names for a new object, what is told of it, and IMAGES, promises 1, 7 to 10, and 36 to 38. */
public final class FaceEdgeTest {
    private static final int NONE = EelThroat.NONE;
    private static final Edge EDGE = new Edge("FaceEdgeTest");

    public static void main(String[] args) {
        newObject();
        memory();
        trap();
        person();
        moon();
        count();
        image();
        back();
        whatImagesHold();
        EDGE.close();
    }

    private static void newObject() {
        EDGE.of("`NONE = -1`", () -> EDGE.is("NONE", EelThroat.NONE, -1));
        EDGE.of("No RIVER, no RULES, none IN FORCE", () -> {
            EelThroat x = new EelThroat();
            int[] want = {0, 0, 0, 0, 0, 0, 0, NONE, 0, 0, 0, 0, 0, 0, 0};
            for (int i = 0; i < want.length; i++) {
                EDGE.is("count(" + i + ")", x.count(i), want[i]);
            }
            for (int i = NONE; i < 12; i++) {
                EDGE.is("no MEMORY", x.memory(i, 0), -2);
                EDGE.is("no TRAP", x.trap(i, 0), -2);
                EDGE.is("no PERSON", x.person(i), NONE);
                EDGE.is("no moon", x.moon(i), NONE);
                EDGE.is("no IMAGE", x.back(i), NONE);
            }
            EDGE.same("one is like another", new EelThroat(), new EelThroat());
            EelThroat one = Edge.rich();
            EDGE.same("one knows nothing of another", new EelThroat(), new EelThroat());
            EDGE.is("nor that one of these", one.count(8), 2);
        });
    }

    private static void memory() {
        EDGE.of("what 0: SIZE, 1: SMELL, 2: WHOSE, 3: where it is: FREE its POOL, 20 and the TRAP, 30 and the PERSON who HAS it, "
            + "NONE at SEA. -2 without these", () -> {
                int[][] want = {{2, 1, 0, 2}, {6, 2, 1, 20}, {7, 3, 0, NONE}, {3, 4, 2, 30}, {1, 5, 0, 3}};
                EelThroat x = Edge.rich();
                for (int m = 0; m < 5; m++) {
                    for (int what = 0; what < 4; what++) {
                        EDGE.is("memory(" + m + ", " + what + ")", x.memory(m, what), want[m][what]);
                    }
                }
                for (int m : Edge.outside(0, 4)) {
                    for (int what = 0; what < 4; what++) {
                        int asked = what;
                        EDGE.refused("MEMORY " + m, y -> y.memory(m, asked), -2);
                    }
                }
                for (int what : Edge.outside(0, 3)) {
                    EDGE.refused("what " + what, y -> y.memory(0, what), -2);
                }
                x = Due.with("river 12 9;person 9" + ";memory 11 9 7 0".repeat(6));
                EDGE.is("the last", x.memory(5, 3), 11);
                EDGE.is("the last", x.memory(5, 0), 9);
                EDGE.is("no seventh", x.memory(6, 0), -2);
                EDGE.is("no MEMORIES", Due.with("river 2 9").memory(0, 0), -2);
            });
    }

    private static void trap() {
        EDGE.of("what 0: POOL, 1: THROAT, 2: BAIT, 3: its KEEPER, 4: the MEMORY in it (NONE: it is empty). -2 without these", () -> {
            int[][] want = {{3, 9, 2, 1, 1}, {2, 3, 4, 0, NONE}, {3, 5, 6, 2, NONE}};
            EelThroat x = Edge.rich();
            for (int t = 0; t < 3; t++) {
                for (int what = 0; what < 5; what++) {
                    EDGE.is("trap(" + t + ", " + what + ")", x.trap(t, what), want[t][what]);
                }
            }
            for (int t : Edge.outside(0, 2)) {
                for (int what = 0; what < 5; what++) {
                    int asked = what;
                    EDGE.refused("TRAP " + t, y -> y.trap(t, asked), -2);
                }
            }
            for (int what : Edge.outside(0, 4)) {
                EDGE.refused("what " + what, y -> y.trap(0, what), -2);
            }
            x = Due.with("river 12 9;person 9;person 9;person 9;person 9" + ";trap 11 9 7 3".repeat(4));
            EDGE.is("the last", x.trap(3, 3), 3);
            EDGE.is("no fifth", x.trap(4, 0), -2);
            EDGE.is("no TRAPS", Due.with("river 2 9").trap(0, 0), -2);
        });
    }

    private static void person() {
        EDGE.of("MEMORIES that a PERSON HAS, as bits; NONE without that PERSON", () -> {
            EelThroat x = Edge.rich();
            EDGE.is("the first", x.person(0), 8);
            EDGE.is("one who HAS none", x.person(1), 0);
            EDGE.is("the last", x.person(2), 0);
            for (int who : Edge.outside(0, 2)) {
                EDGE.refused("PERSON " + who, y -> y.person(who), NONE);
            }
            EDGE.is("no PEOPLE", Due.with("river 2 9").person(0), NONE);
            x = Due.with("river 2 9;person 9;person 9;person 9;person 9" + ";memory 0 1 0 0".repeat(6) + ";trap 1 1 0 3");
            for (int i = 0; i < 6; i++) {
                EDGE.is("more and more", x.person(3), (1 << i) - 1);
                x.night();
                EDGE.is("in a TRAP it is not HAD", x.person(3), (1 << i) - 1);
                x.lift(0);
            }
            EDGE.is("all six", x.person(3), 63);
            EDGE.is("no fifth", x.person(4), NONE);
        });
    }

    private static void moon() {
        EDGE.of("LIGHT of a NIGHT that comes round; NONE without it", () -> {
            EelThroat x = Edge.rich();
            EDGE.is("the first, in NIGHT 2", x.moon(0), 3);
            EDGE.is("the second", x.moon(1), 7);
            EDGE.is("the last", x.moon(2), 1);
            for (int n : Edge.outside(0, 2)) {
                EDGE.refused("NIGHT " + n, y -> y.moon(n), NONE);
            }
            x = Due.with("river 2 9" + ";moon 0".repeat(11) + ";moon 9");
            EDGE.is("the twelfth", x.moon(11), 9);
            EDGE.is("no thirteenth", x.moon(12), NONE);
            EDGE.is("without a moon", Due.with("river 2 9").moon(0), 0);
            EDGE.is("without a moon", Due.with("river 2 9").moon(1), NONE);
        });
    }

    private static void count() {
        EDGE.of("What 0: POOLS, 1: BIG, 2: NIGHTS that come round (0 without a RIVER), 3: PEOPLE, 4: MEMORIES, 5: TRAPS, 6: RULES, "
            + "7: the RULE IN FORCE (NONE), 8: NIGHT, 9: MEMORIES that are FREE, as bits, 10: that are at SEA, as bits, 11: NOTES, "
            + "12: ACTS that can be UNDONE, 13: x, 14: bytes of the TAPE. NONE for others", () -> {
                int[] want = {5, 6, 3, 3, 5, 3, 2, 1, 2, 17, 4, 3, 4, 12345, 33};
                EelThroat x = Edge.rich();
                for (int i = 0; i < want.length; i++) {
                    EDGE.is("count(" + i + ")", x.count(i), want[i]);
                }
                for (int what : Edge.outside(0, 14)) {
                    EDGE.refused("count(" + what + ")", y -> y.count(what), NONE);
                    EDGE.still("count(" + what + ")", EelThroat::new, y -> y.count(what), NONE);
                }
                x = Due.with("river 12 9" + ";moon 9".repeat(12) + ";person 9".repeat(4) + ";memory 11 9 7 3".repeat(6) + ";trap 11 8 7 3".repeat(4));
                int[] most = {12, 9, 12, 4, 6, 4};
                for (int i = 0; i < most.length; i++) {
                    EDGE.is("the most of " + i, x.count(i), most[i]);
                }
                EDGE.is("all FREE", x.count(9), 63);
                x.night();
                EDGE.is("all at SEA", x.count(10), 63);
                EDGE.is("none FREE", x.count(9), 0);
            });
    }

    private static void image() {
        EDGE.of("An IMAGE is made: NIGHT; NONE without it", () -> {
            for (int k : Edge.outside(0, 3)) {
                EDGE.refused("image(" + k + ")", x -> x.image(k), NONE);
                EDGE.still("image(" + k + ")", EelThroat::new, x -> x.image(k), NONE);
            }
            EelThroat x = new EelThroat();
            EDGE.is("without a RIVER", x.image(0), 0);
            x = Due.with("river 2 9;person 1;memory 0 1 0 0");
            for (int k = 0; k < 4; k++) {
                EDGE.is("image(" + k + ")", x.image(k), k);
                x.night();
            }
            for (int k = 3; k >= 0; k--) {
                EDGE.is("back(" + k + ")", x.back(k), k);
                EDGE.is("NIGHT", x.count(8), k);
            }
            Due.nights(x, 9);
            EDGE.is("made anew", x.image(3), 9);
            EDGE.is("another one stays", x.back(2), 2);
            EDGE.is("the new one", x.back(3), 9);
            x = Edge.rich();
            x.image(1);
            EDGE.is("ACTS stay", x.count(12), 4);
            EDGE.is("NIGHT stays", x.count(8), 2);
        });
    }

    private static void back() {
        EDGE.of("NONE, and nothing happens, if it was never made, or without it", () -> {
            for (int k : Edge.outside(0, 3)) {
                EDGE.refused("back(" + k + ")", x -> x.back(k), NONE);
            }
            for (int k = 0; k < 4; k++) {
                int its = k;
                EDGE.still("back(" + k + ") of a new one", EelThroat::new, x -> x.back(its), NONE);
            }
            EDGE.refused("back(1), never made", x -> x.back(1), NONE);
            EDGE.refused("back(3), never made", x -> x.back(3), NONE);
        });
        EDGE.of("gone back to, it is as it was (these stay; nothing can be UNDONE then)", () -> {
            EelThroat x = Edge.rich();
            EDGE.is("back(2)", x.back(2), 1);
            EDGE.is("no ACTS", x.count(12), 0);
            EDGE.is("none UNDONE", x.undo(), NONE);
            EDGE.is("NIGHT", x.count(8), 1);
            EDGE.is("the TAPE stays", x.count(14), 33);
            EDGE.is("the RULES stay", x.count(6), 2);
            x.night();
            EDGE.is("one ACT", x.count(12), 1);
            EDGE.is("UNDONE", x.undo(), 0);
            EDGE.is("no more", x.undo(), NONE);
            x = Edge.rich();
            x.back(0);
            EDGE.is("the TAPE is as it stands", x.river(), 1);
            EDGE.is("no RULE IN FORCE then", x.count(7), NONE);
            // Behind a full row of ACTS, too, none can be UNDONE.
            x = Due.with("river 2 9;person 1;memory 0 1 0 0");
            x.image(0);
            Due.nights(x, 25);
            x.image(1);
            EDGE.is("back(1)", x.back(1), 25);
            EDGE.is("none UNDONE", x.undo(), NONE);
            EDGE.is("back(0)", x.back(0), 0);
            EDGE.is("none UNDONE", x.undo(), NONE);
        });
    }

    private static void whatImagesHold() {
        EDGE.of("IMAGES 0 to 3: all but the TAPE and the RULES, as it is (the RULE IN FORCE, too)", () -> {
            EelThroat x = Edge.rich();
            x.image(3);
            Due.river(x, "river 2 1;person 1;memory 1 9 0 0");
            x.force(NONE);
            x.seed(1);
            x.note(0, 0, 0);
            Due.nights(x, 3);
            Due.rule(x, "go 5");
            Due.tell(x, "river 3 4;person 5;memory 2 1 0 0");
            EDGE.is("back(3)", x.back(3), 2);
            int[] want = {5, 6, 3, 3, 5, 3, 3, 1, 2, 17, 4, 3, 0, 12345, 33};
            for (int i = 0; i < want.length; i++) {
                EDGE.is("count(" + i + ")", x.count(i), want[i]);
            }
            x.night();
            x.give(3, 1);
            x.sink(1, 0, 0);
            x.force(0);
            x.note(NONE, 0, 0);
            x.seed(2);
            x.back(3);
            EelThroat y = Edge.rich();
            Due.rule(y, "go 5");
            Due.tell(y, "river 3 4;person 5;memory 2 1 0 0");
            y.image(3);
            y.back(3);
            EDGE.same("as it was", x, y);
            // Of a NOTE all three numbers are held: by none it is so for MEMORY 0 at the begin of NIGHT 1, in POOL 1, alone.
            int[][] others = {{0, 0, 1}, {1, 1, 1}, {1, 0, 2}};
            for (int[] other : others) {
                x = Due.with("river 3 9;person 1;memory 0 1 0 0;memory 1 1 0 0");
                x.note(1, 0, 1);
                x.image(0);
                x.note(NONE, 0, 0);
                x.note(other[0], other[1], other[2]);
                x.image(1);
                EDGE.is("the other one", x.ruled(0), 0);
                x.back(0);
                EDGE.is("as it was told", x.ruled(0), 1);
                x.back(1);
                EDGE.is("the other one", x.ruled(0), 0);
            }
            // No RIVER is held, too: behind it there is none.
            x = new EelThroat();
            x.image(0);
            Due.river(x, "river 2 1;person 1;memory 1 9 0 0;trap 0 1 0 0");
            x.night();
            x.image(1);
            EDGE.is("back(0)", x.back(0), 0);
            y = new EelThroat();
            y.image(0);
            for (int i = 0; i < 15; i++) {
                EDGE.is("count(" + i + ")", x.count(i), y.count(i));
            }
            EDGE.is("none", x.night(), NONE);
            EDGE.is("none", x.astray(), NONE);
            EDGE.is("none", x.full(), NONE);
            EDGE.is("none", x.ruled(0), -3);
            EDGE.is("none", x.memory(0, 3), -2);
            EDGE.is("the other one", x.back(1), 1);
            EDGE.is("at SEA there", x.count(10), 1);
            // A RIVER in place of it leaves the IMAGES.
            Due.river(x, "river 3 1");
            EDGE.is("still there", x.back(1), 1);
            EDGE.is("still there", x.count(0), 2);
        });
    }
}
