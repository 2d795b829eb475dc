/** The edges that the document names for a RIVER's text and its FAULTS, promises 2 to 4. */
public final class RiverEdgeTest {
    private static final int NONE = EelThroat.NONE;
    private static final Edge EDGE = new Edge("RiverEdgeTest");
    private static final String HEAD = "river 12 9;person 1;person 2";
    private static final String FULL = "river 12 9" + ";moon 9".repeat(12) + ";person 9".repeat(4)
        + ";memory 11 9 7 3".repeat(6) + ";trap 11 9 7 3".repeat(4);

    public static void main(String[] args) {
        tape();
        clauses();
        kinds();
        order();
        faults();
        promise();
        EDGE.close();
    }

    private static void good(String text, int memories) {
        EDGE.is("'" + text + "'", Due.river(new EelThroat(), text), memories);
    }

    private static void bad(String text, int place, int kind) {
        EDGE.is("'" + text + "'", Due.river(new EelThroat(), text), -2 - (1 + 8 * place + kind));
    }

    /** The text up to a NUMBER, that NUMBER at both its ends and beyond them, and the rest of the text. */
    private static void taken(String ahead, int least, int most, String behind) {
        for (int n = least; n <= most; n++) {
            EDGE.is("'" + ahead + n + behind + "' is good", Math.min(0, Due.river(new EelThroat(), ahead + n + behind)), 0);
        }
        if (least > 0) {
            bad(ahead + (least - 1) + behind, ahead.length(), 1);
        }
        bad(ahead + "-1" + behind, ahead.length(), 0);
        bad(ahead + (most + 1) + behind, ahead.length(), 1);
        bad(ahead + 99999 + behind, ahead.length(), 1);
        bad(ahead + 100000 + behind, ahead.length(), 1);
        bad(ahead + "0000" + most + "000000" + behind, ahead.length(), 1);
        bad(ahead, ahead.length(), 0);
        bad(ahead + ";moon 1", ahead.length(), 0);
    }

    private static int feedSigns(EelThroat x, int sign) {
        int four = sign << 24 | sign << 16 | sign << 8 | sign;
        return x.feed(four, four, four, four, four);
    }

    private static EelThroat fed(int times, int end) {
        EelThroat x = new EelThroat();
        for (int i = 0; i < times; i++) {
            feedSigns(x, ' ');
        }
        x.end(end);
        return x;
    }

    /** On the TAPE are a text's first bytes; those behind them came, and are gone. */
    private static EelThroat cut(String text, int n) {
        EelThroat x = new EelThroat();
        Due.tell(x, text);
        x.end(n);
        return x;
    }

    private static void tape() {
        EDGE.of("NONE, and none comes, if it would have more than 400", () -> {
            EDGE.is("the first twenty", feedSigns(new EelThroat(), 'a'), 20);
            EDGE.is("from 380 on", feedSigns(fed(19, 380), 'a'), 400);
            for (int size = 381; size <= 400; size++) {
                int end = size;
                EDGE.still("feed behind " + size, () -> fed(20, end), x -> feedSigns(x, 'a'), NONE);
            }
            EelThroat x = fed(20, 400);
            feedSigns(x, 'a');
            EDGE.is("the bytes are as they were", x.river(), -2 - (1 + 8 * 400));
        });
        EDGE.of("of each number the highest first", () -> {
            EelThroat x = new EelThroat();
            x.feed(0x72697665, 0x72203132, 0x20393b6d, 0x6f6f6e20, 0x37202020);
            EDGE.is("'river 12 9;moon 7'", x.river(), 0);
            EDGE.is("its POOLS", x.count(0), 12);
            EDGE.is("its moon", x.moon(0), 7);
            x.feed(0xff697665, 0x72203132, 0x20392020, 0x20202020, 0x20202020);
            EDGE.is("a byte of 255", x.river(), -3);
            x.feed(0x20202020, 0x20202020, 0x20202020, 0x20202020, 0x20202080);
            EDGE.is("a last byte of 128", x.river(), -2 - (1 + 8 * 19));
        });
        EDGE.of("NONE, and nothing happens, if it has not so many, or n is below 0", () -> {
            for (int n : Edge.outside(0, 33)) {
                EDGE.refused("end(" + n + ")", x -> x.end(n), NONE);
            }
            EDGE.still("end(33), as many as it has", Edge::rich, x -> x.end(33), 33);
            EDGE.is("end(32)", Edge.rich().end(32), 32);
            EDGE.is("end(0)", Edge.rich().end(0), 0);
            EDGE.still("end(0) of none", EelThroat::new, x -> x.end(0), 0);
            EDGE.still("end(1) of none", EelThroat::new, x -> x.end(1), NONE);
            EDGE.is("end(400)", fed(20, 400).end(400), 400);
            EDGE.still("end(401)", () -> fed(20, 400), x -> x.end(401), NONE);
        });
        EDGE.of("The TAPE has its first n bytes alone", () -> {
            String river = "river 12 9;moon 3;person 4;memory 10 2 1 0;trap 11 3 1 0";
            String rule = "go 12 + pool if not [light >= 3 or next < 9] and size = 1;go 7";
            for (int n = 0; n <= river.length(); n++) {
                EDGE.is(n + " bytes of '" + river + "'", cut(river, n).river(), Due.river(new EelThroat(), river.substring(0, n)));
            }
            for (int n = 0; n <= rule.length(); n++) {
                EDGE.is(n + " bytes of '" + rule + "'", cut(rule, n).rule(), Due.rule(new EelThroat(), rule.substring(0, n)));
            }
            EDGE.is("a digit behind it", cut("river 22 9", 7).river(), -2 - (1 + 8 * 7));
            EDGE.is("a blank behind it", cut("river 2 9", 5).river(), -2 - (1 + 8 * 5));
            EDGE.is("a letter behind it", cut("gone 1", 2).rule(), -2 - (1 + 8 * 2));
            EDGE.is("a sign behind it", cut("go 1 if 1<=1", 10).rule(), -2 - (1 + 8 * 10));
            EDGE.is("the rest is as if it had never come", cut("go 1;", 4).rule(), 0);
        });
        EDGE.of("A RIVER is a text of at most 400 bytes", () -> {
            good("river 2" + " ".repeat(392) + "1", 0);
            good(" ".repeat(391) + "river 2 1", 0);
            bad("river 2 1" + " ".repeat(390) + "1", 399, 0);
        });
    }

    private static void clauses() {
        EDGE.of("CLAUSE { ; CLAUSE }, 40 at most", () -> {
            good("river 2 1", 0);
            good(FULL, 6);
            // There are never so many: one that is too many of its kind comes ahead of the forty-first.
            for (String more : new String[] {"river", "moon", "person", "memory", "trap"}) {
                bad(FULL + ";" + more, FULL.length() + 1, 4);
            }
            bad("river 2 1" + ";moon 1".repeat(41), 10 + 12 * 7, 4);
            bad("", 0, 0);
            bad(";", 0, 0);
            bad("river 2 1;", 10, 0);
            bad("river 2 1;;moon 1", 10, 0);
        });
        EDGE.of("POOLS 2 to 12, 0 the highest", () -> {
            taken("river ", 2, 12, " 1");
            bad("river 0 1", 6, 1);
            EDGE.is("2", Due.with("river 2 1").count(0), 2);
            EDGE.is("12", Due.with("river 12 1").count(0), 12);
            EDGE.is("down from 0", Due.with("river 12 1;person 1;memory 0 1 0 0").ahead(0, 11), 11);
        });
        EDGE.of("BIG 1 to 9", () -> {
            taken("river 2 ", 1, 9, "");
            EDGE.is("1", Due.with("river 2 1").count(1), 1);
            EDGE.is("9", Due.with("river 2 9").count(1), 9);
        });
        EDGE.of("once, the first CLAUSE", () -> {
            bad("river 2 1;river 2 1", 10, 4);
            bad("river 2 1;moon 1;river 2 1", 17, 4);
            bad("moon 1;river 2 1", 0, 4);
            bad("person 1", 0, 4);
            bad("memory 0 1 0 0", 0, 4);
            bad("trap 0 1 0 0", 0, 4);
        });
    }

    private static void kinds() {
        EDGE.of("LIGHT 0 to 9 of the next NIGHT that comes round, 12 at most", () -> {
            taken("river 2 1;moon ", 0, 9, "");
            EelThroat x = Due.with(FULL);
            EDGE.is("twelve", x.count(2), 12);
            EDGE.is("the twelfth", x.moon(11), 9);
            bad("river 2 1" + ";moon 1".repeat(13), 10 + 12 * 7, 4);
            x = Due.with("river 2 1;moon 5;moon 0;moon 9");
            EDGE.is("in the order told", 100 * x.moon(0) + 10 * x.moon(1) + x.moon(2), 509);
        });
        EDGE.of("person NUMBER (STRONG 1 to 9)", () -> {
            taken("river 2 1;person ", 1, 9, "");
            bad("river 2 1" + ";person 1".repeat(5), 10 + 4 * 9, 4);
            EDGE.is("four", Due.with(FULL).count(3), 4);
        });
        EDGE.of("memory NUMBER NUMBER NUMBER NUMBER (a POOL; SIZE 1 to 9; SMELL 0 to 7; a PERSON that was told, WHOSE it is)", () -> {
            taken(HEAD + ";memory ", 0, 11, " 1 0 0");
            taken("river 2 9;person 1;memory ", 0, 1, " 1 0 0");
            taken(HEAD + ";memory 0 ", 1, 9, " 0 0");
            taken(HEAD + ";memory 0 1 ", 0, 7, " 0");
            taken(HEAD + ";memory 0 1 0 ", 0, 1, "");
            taken(HEAD + ";memory 0 1 0 ", 0, 1, ";person 3");
            taken(HEAD + ";person 1;person 1;memory 0 1 0 ", 0, 3, "");
            bad("river 2 1;memory 0 1 0 0", 23, 1);
            bad("river 2 1;memory 0 1 0 0;person 1", 23, 1);
        });
        EDGE.of("trap NUMBER NUMBER NUMBER NUMBER (a POOL; THROAT 1 to 9; BAIT 0 to 7; a PERSON that was told, its KEEPER)", () -> {
            taken(HEAD + ";trap ", 0, 11, " 1 0 0");
            taken("river 2 9;person 1;trap ", 0, 1, " 1 0 0");
            taken(HEAD + ";trap 0 ", 1, 9, " 0 0");
            taken(HEAD + ";trap 0 1 ", 0, 7, " 0");
            taken(HEAD + ";trap 0 1 0 ", 0, 1, "");
            taken(HEAD + ";trap 0 1 0 ", 0, 1, ";person 3");
            taken(HEAD + ";person 1;person 1;trap 0 1 0 ", 0, 3, "");
            bad("river 2 1;trap 0 1 0 0", 21, 1);
            bad("river 2 1;trap 0 1 0 0;person 1", 21, 1);
        });
    }

    private static void order() {
        EDGE.of("PEOPLE 0 to 3, MEMORIES 0 to 5, TRAPS 0 to 3, in the order told", () -> {
            StringBuilder text = new StringBuilder("river 12 9;person 1;person 2;person 3;person 4");
            for (int i = 0; i < 6; i++) {
                text.append(";memory ").append(2 * i).append(' ').append(i + 2).append(' ').append(7 - i).append(' ').append(i % 4);
            }
            for (int i = 0; i < 4; i++) {
                text.append(";trap ").append(11 - i).append(' ').append(9 - i).append(' ').append(2 * i).append(' ').append(3 - i);
            }
            EelThroat x = Due.with(text.toString());
            for (int i = 0; i < 6; i++) {
                EDGE.is("SIZE", x.memory(i, 0), i + 2);
                EDGE.is("SMELL", x.memory(i, 1), 7 - i);
                EDGE.is("WHOSE", x.memory(i, 2), i % 4);
                EDGE.is("POOL", x.memory(i, 3), 2 * i);
            }
            for (int i = 0; i < 4; i++) {
                EDGE.is("POOL", x.trap(i, 0), 11 - i);
                EDGE.is("THROAT", x.trap(i, 1), 9 - i);
                EDGE.is("BAIT", x.trap(i, 2), 2 * i);
                EDGE.is("KEEPER", x.trap(i, 3), 3 - i);
                EDGE.is("HAS", x.person(i), 0);
            }
            EDGE.is("none", Due.with("river 2 1").count(3), 0);
            EDGE.is("none", Due.with("river 2 1").count(4), 0);
            EDGE.is("none", Due.with("river 2 1").count(5), 0);
        });
        EDGE.of("Without a moon one NIGHT comes round, of LIGHT 0", () -> {
            EelThroat x = Due.with("river 2 1");
            EDGE.is("one", x.count(2), 1);
            EDGE.is("LIGHT", x.moon(0), 0);
            EDGE.is("no other", x.moon(1), NONE);
            x = Due.with("river 2 9;person 1;memory 0 1 0 0", "go pool if light = 0 and next = 0");
            EDGE.is("both LIGHTS", x.ahead(0, 1), 1);
            x = Due.with("river 2 9;moon 0;person 1;memory 0 1 0 0");
            EDGE.is("one moon", 10 * x.count(2) + x.moon(0), 10);
        });
        EDGE.of("It is NIGHT 0; all MEMORIES are FREE, all TRAPS are sunk and empty", () -> {
            EelThroat x = Due.with(FULL);
            EDGE.is("NIGHT", x.count(8), 0);
            EDGE.is("FREE", x.count(9), 63);
            EDGE.is("at SEA", x.count(10), 0);
            for (int t = 0; t < 4; t++) {
                EDGE.is("empty", x.trap(t, 4), NONE);
                EDGE.is("HAD", x.person(t), 0);
            }
            x = Edge.rich();
            x.river();
            EDGE.is("NIGHT, of another one", x.count(8), 0);
            EDGE.is("FREE, of another one", x.count(9), 1);
            EDGE.is("at SEA, of another one", x.count(10), 0);
        });
    }

    private static void faults() {
        EDGE.of("0 a byte or WORD that can't stand there, or the end (behind the last byte)", () -> {
            bad("", 0, 0);
            bad(" ", 1, 0);
            bad("river", 5, 0);
            bad("river   ", 8, 0);
            bad("river 2", 7, 0);
            bad("river 2" + " ".repeat(393), 400, 0);
            bad("river 2 1;", 10, 0);
            bad("river 2 1 ; ", 12, 0);
            bad("river 2 1;moon", 14, 0);
            bad("river 2 1;person", 16, 0);
            bad("river 2 1;person 1;memory 0 1 0", 31, 0);
            bad("river 2 1;person 1;trap 0 1 0", 29, 0);
            bad("rivers 2 1", 0, 0);
            bad("rive 2 1", 0, 0);
            bad("riverx2 1", 0, 0);
            bad("rivera 2 1", 0, 0);
            bad("riverz 2 1", 0, 0);
            bad("river 2 1;river1", 10, 4);
            bad("river 2 1;moons 1", 10, 0);
            bad("river 2 1;moo 1", 10, 0);
            bad("river 2 1;m 1", 10, 0);
            bad("river 2 1;Moon 1", 10, 0);
            bad("river 2 1;persona 1", 10, 0);
            bad("river 2 1;memories 1", 10, 0);
            bad("river 2 1;traps 1", 10, 0);
            bad("river 2 1;go 1", 10, 0);
            bad("river 2 1;7", 10, 0);
            bad("river 2 1 1", 10, 0);
            bad("river 2 1 123456", 10, 0);
            bad("river 2 1,moon 1", 9, 0);
            bad("river 2 1moon 1", 9, 0);
            bad("river +2 1", 6, 0);
            bad("river 2. 1", 7, 0);
            for (int sign : new int[] {0, 9, 10, 13, 31, 33, 127, 128, 160, 255}) {
                bad("river" + (char) sign + "2 1", 5, 0);
                bad("river 2 1" + (char) sign, 9, 0);
                bad((char) sign + "river 2 1", 0, 0);
            }
            for (int sign : new int[] {'/', ':', '`', '{', '@', '['}) {
                bad("river 2" + (char) sign + " 1", 7, 0);
                bad("river" + (char) sign + "2 1", 5, 0);
            }
        });
        EDGE.of("Blanks (32) stand between as one likes", () -> {
            good("river2 1;moon0;person1;memory0 1 0 0;trap0 1 0 0", 1);
            good("   river  2   1  ;  moon  0  ;person 1;  memory   0 1 0 0   ", 1);
        });
        EDGE.of("1 a NUMBER of more digits, or not as told", () -> {
            good("river 00012 00009", 0);
            bad("river 000012 9", 6, 1);
            bad("river   000012 9", 8, 1);
            bad("river 00013 9", 6, 1);
            bad("river 99999 9", 6, 1);
            bad("river 4294967298 1", 6, 1);
            bad("river 18446744073709551618 1", 6, 1);
            bad("river 2 " + "0".repeat(391) + "1", 8, 1);
            bad("river 2 000001", 8, 1);
        });
        EDGE.of("4 one CLAUSE too many, a second river, another CLAUSE ahead of it, a thirteenth moon, a fifth PERSON, "
            + "a seventh MEMORY, a fifth TRAP (at its first byte)", () -> {
                bad("  moon 1;river 2 1", 2, 4);
                bad("river 2 1;  river 2 1", 12, 4);
                bad("river 2 1" + ";moon 1".repeat(12) + ";  moon 1", 9 + 12 * 7 + 3, 4);
                bad("river 2 1" + ";person 1".repeat(4) + ";  person 1", 9 + 4 * 9 + 3, 4);
                bad(HEAD + ";memory 0 1 0 0".repeat(6) + ";  memory 0 1 0 0", HEAD.length() + 6 * 15 + 3, 4);
                bad(HEAD + ";trap 0 1 0 0".repeat(4) + ";  trap 0 1 0 0", HEAD.length() + 4 * 13 + 3, 4);
                good("river 2 1" + ";moon 1".repeat(12), 0);
                good("river 2 1" + ";person 1".repeat(4), 0);
                good(HEAD + ";memory 0 1 0 0".repeat(6), 6);
                good(HEAD + ";trap 0 1 0 0".repeat(4), 0);
            });
        EDGE.of("FAULTS, the first along the text", () -> {
            bad("river 1 0;fish", 6, 1);
            bad("river 2 0;fish", 8, 1);
            bad("river 2 1;moon 10;river 2 1", 15, 1);
            bad("river 2 1;river 1 0", 10, 4);
            bad("river 2 1;person 1;memory 2 0 8 1", 26, 1);
            bad("river 2 1;person 1;memory 1 0 8 1", 28, 1);
            bad("river 2 1;person 1;memory 1 1 8 1", 30, 1);
            bad("river 2 1;person 1;trap 2 0 8 1", 24, 1);
        });
        EDGE.of("Of one place the least", () -> {
            bad("fish 2 1", 0, 0);
            bad("river 2 1" + ";moon 1".repeat(12) + ";moons 1", 10 + 12 * 7, 0);
            bad("river 2 1;rivers", 10, 0);
        });
    }

    private static EelThroat beforeFault(String text) {
        EelThroat x = Edge.rich();
        Due.tell(x, text);
        return x;
    }

    private static void promise() {
        EDGE.of("-2 - its FAULT, and all stays", () -> {
            for (String text : new String[] {"", "river 13 1", "river 2 1;fish", "river 2 1;person 1;memory 0 1 0 0;river", FULL + ";"}) {
                EelThroat x = beforeFault(text);
                int answer = x.river();
                EDGE.is("'" + text + "' is refused", Math.max(answer, -3), -3);
                EDGE.same("'" + text + "'", x, Edge.richWithoutTape());
            }
        });
        EDGE.of("how many MEMORIES; -2 - its FAULT, and all stays", () -> {
            EelThroat x = new EelThroat();
            Due.river(x, "river 12 9" + ";moon 9".repeat(12) + ";person 9".repeat(4) + ";memory 11 9 7 3".repeat(6) + ";trap 99 9 7 3");
            Due.river(x, "river 12 9;person 9;memory 99 9 7 3");
            EDGE.is("no RIVER behind a FAULT", x.night(), NONE);
            EDGE.same("no RIVER behind a FAULT", x, new EelThroat());
            x = new EelThroat();
            Due.river(x, "river 12 9" + ";moon 9".repeat(12) + ";person 9".repeat(4) + ";memory 11 9 7 3".repeat(6) + ";trap 99 9 7 3");
            Due.river(x, "river 12 9;person 9;memory 99 9 7 3");
            EDGE.is("one behind it", Due.river(x, "river 3 2;person 5"), 0);
            EDGE.is("nothing of it at SEA", x.count(10), 0);
            EDGE.is("nothing of it at SEA", x.atSea(100), 0);
            EDGE.same("it knows nothing of a FAULT", x, Due.with("river 3 2;person 5"));
        });
        EDGE.of("The TAPE, which is empty then, is the RIVER in place of the one there was", () -> {
            EelThroat x = Edge.rich();
            EDGE.is("one MEMORY", x.river(), 1);
            EDGE.is("no TAPE", x.count(14), 0);
            EDGE.is("no TAPE", x.end(1), NONE);
            EDGE.is("an empty TAPE is no RIVER", x.river(), -3);
            EDGE.is("POOLS", x.count(0), 3);
            EDGE.is("BIG", x.count(1), 4);
            EDGE.is("without a moon", x.count(2), 1);
            EDGE.is("PEOPLE", x.count(3), 1);
            EDGE.is("TRAPS", x.count(5), 0);
            EDGE.is("no second MEMORY", x.memory(1, 0), -2);
            EDGE.is("no TRAP", x.trap(0, 0), -2);
            EDGE.is("no second PERSON", x.person(1), NONE);
        });
        EDGE.of("no NOTES, nothing to be UNDONE; the RULE IN FORCE and x stay", () -> {
            EelThroat x = Edge.rich();
            x.river();
            EDGE.is("NOTES", x.count(11), 0);
            EDGE.is("ACTS", x.count(12), 0);
            EDGE.is("undo", x.undo(), NONE);
            EDGE.is("the RULE IN FORCE", x.count(7), 1);
            EDGE.is("x", x.count(13), 12345);
            EDGE.is("RULES", x.count(6), 2);
            EDGE.is("IMAGES", x.back(2), 1);
            EDGE.is("IMAGES", x.count(0), 5);
            EDGE.is("one never made", x.back(1), NONE);
        });
        EDGE.of("how many MEMORIES; -2 - its FAULT", () -> {
            good("river 2 1;person 1", 0);
            for (int n = 0; n <= 6; n++) {
                good("river 2 1;person 1" + ";memory 0 1 0 0".repeat(n), n);
            }
            EDGE.is("the least FAULT", Due.river(new EelThroat(), "x"), -3);
            EDGE.is("the place furthest behind", Due.river(new EelThroat(), "river 2" + " ".repeat(393)), -2 - 3201);
        });
    }
}
