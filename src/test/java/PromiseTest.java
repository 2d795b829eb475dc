/** Promises 1 to 38, one method each, with answers reckoned by hand. */
public final class PromiseTest {
    private static final int NONE = EelThroat.NONE;
    private static final Due DUE = new Due();

    /** Without a RULE: memory 2 goes to sea in NIGHT 0; 0 and 1 go into traps 0 and 1 in NIGHT 1. */
    private static final String BROOK = "river 4 5;moon 3;moon 7;person 4;person 9"
        + ";memory 0 2 1 0;memory 1 6 2 1;memory 3 5 3 0;trap 2 3 1 1;trap 3 9 2 0";

    /** In NIGHT 0 memories 0 to 3 go into traps 0 to 3, whose keepers are 0 to 3. */
    private static final String HANDS = "river 2 9;person 9;person 9;person 9;person 9"
        + ";memory 0 1 0 1;memory 0 2 1 0;memory 0 3 2 3;memory 0 4 3 2"
        + ";trap 1 9 0 0;trap 1 9 1 1;trap 1 9 2 2;trap 1 9 3 3";

    public static void main(String[] args) {
        p1();
        p2();
        p3();
        p4();
        p5();
        p6();
        p7();
        p8();
        p9();
        p10();
        p11Without();
        p11Rules();
        p11Words();
        p11Order();
        p12();
        p13();
        p14();
        p15();
        p16();
        p17();
        p18();
        p19();
        p20();
        p21();
        p22();
        p23();
        p24();
        p25();
        p26();
        p27();
        p28();
        p29();
        p30();
        p31();
        p32();
        p33();
        p34();
        p35();
        p36();
        p37();
        p38();
        DUE.close("PromiseTest");
    }

    private static void is(String call, long got, long want) {
        DUE.is(call, got, want);
    }

    private static EelThroat handsFull() {
        EelThroat x = Due.with(HANDS);
        is("hands: night()", x.night(), 15);
        for (int t = 0; t < 4; t++) {
            is("hands: lift", x.lift(t), t);
        }
        return x;
    }

    private static void p1() {
        EelThroat x = new EelThroat();
        int[] want = {0, 0, 0, 0, 0, 0, 0, NONE, 0, 0, 0, 0, 0, 0, 0, NONE};
        for (int i = 0; i < want.length; i++) {
            is("new: count(" + i + ")", x.count(i), want[i]);
        }
        is("new: memory", x.memory(0, 0), -2);
        is("new: trap", x.trap(0, 0), -2);
        is("new: person", x.person(0), NONE);
        is("new: moon", x.moon(0), NONE);
        is("new: night", x.night(), NONE);
        is("new: lift", x.lift(0), NONE);
        is("new: sink", x.sink(0, 0, 0), NONE);
        is("new: free", x.free(0, 0), NONE);
        is("new: give", x.give(0, 0), NONE);
        is("new: undo", x.undo(), NONE);
        is("new: ahead", x.ahead(0, 0), -2);
        is("new: caught", x.caught(0, 0), NONE);
        is("new: atSea", x.atSea(0), NONE);
        is("new: full", x.full(), NONE);
        is("new: bestSink", x.bestSink(0, 1, 0), -2);
        is("new: lay", x.lay(0, 1, 0, 0), NONE);
        is("new: throats", x.throats(0, 1), NONE);
        is("new: astray", x.astray(), NONE);
        is("new: rings", x.rings(0), NONE);
        is("new: right", x.right(0), NONE);
        is("new: of", x.of(0), NONE);
        is("new: rests", x.rests(0, 1, 1, 0), NONE);
        is("new: cycle", x.cycle(0), NONE);
        is("new: pence", x.pence(0, 0), NONE);
        is("new: note", x.note(0, 0, 0), -2);
        is("new: ruled", x.ruled(0), -3);
        is("new: look", x.look(0, 0), NONE);
        is("new: moons", x.moons(1, 1, 0, 0), NONE);
        is("new: back", x.back(0), NONE);
        is("new: force(0)", x.force(0), -2);
        is("NONE", EelThroat.NONE, -1);
    }

    private static void p2() {
        EelThroat x = new EelThroat();
        for (int i = 1; i <= 20; i++) {
            is("feed", x.feed(0x72697665, 0x72203220, 0x31202020, 0x20202020, 0x20202020), 20 * i);
        }
        is("feed beyond 400", x.feed(0, 0, 0, 0, 0), NONE);
        is("nothing came", x.count(14), 400);
        is("end(381)", x.end(381), 381);
        is("feed beyond 400", x.feed(0, 0, 0, 0, 0), NONE);
        is("end(380)", x.end(380), 380);
        is("feed up to 400", x.feed(0, 0, 0, 0, 0), 400);
        is("end(20)", x.end(20), 20);
        is("the bytes' order", x.river(), 0);
        is("the bytes' order", x.count(0), 2);
    }

    private static void p3() {
        EelThroat x = new EelThroat();
        is("end(0) at first", x.end(0), 0);
        is("end(1) without it", x.end(1), NONE);
        x.feed(1, 2, 3, 4, 5);
        is("end(-1)", x.end(-1), NONE);
        is("end(21)", x.end(21), NONE);
        is("all stays", x.count(14), 20);
        is("end(20)", x.end(20), 20);
        is("end(7)", x.end(7), 7);
        is("seven bytes", x.count(14), 7);
        is("end(8)", x.end(8), NONE);
        is("feed behind them", x.feed(1, 2, 3, 4, 5), 27);
        is("end(int)", x.end(Integer.MIN_VALUE), NONE);
    }

    private static void p4() {
        EelThroat x = Due.with(BROOK, "go 1");
        is("the TAPE is empty then", x.count(14), 0);
        x.seed(77);
        x.note(3, 0, 1);
        x.night();
        is("another RIVER", Due.river(x, "river 12 9;person 1;person 2;memory 11 9 7 1;memory 0 1 0 0;trap 5 4 3 1"), 2);
        int[] want = {12, 9, 1, 2, 2, 1, 1, 0, 0, 3, 0, 0, 0, 77, 0};
        for (int i = 0; i < want.length; i++) {
            is("another RIVER: count(" + i + ")", x.count(i), want[i]);
        }
        is("its MEMORY", x.memory(0, 3), 11);
        is("its TRAP", x.trap(0, 4), NONE);
        is("its undo", x.undo(), NONE);
        is("without a moon", x.moon(0), 0);
        is("no more of the old ones", x.memory(2, 0), -2);
    }

    private static void p5() {
        EelThroat x = new EelThroat();
        for (int i = 0; i < 6; i++) {
            is("rule", Due.rule(x, "go 9 - pool"), i);
        }
        is("a seventh", Due.rule(x, "go 9 - pool"), NONE);
        is("its TAPE stays", x.count(14), 11);
        is("a seventh with a FAULT", Due.rule(x, "gone"), NONE);
        is("its TAPE stays", x.count(14), 4);
        is("six RULES", x.count(6), 6);
    }

    private static void p6() {
        EelThroat x = new EelThroat();
        is("force NONE", x.force(NONE), NONE);
        is("force 0 without it", x.force(0), -2);
        Due.rule(x, "go 1");
        Due.rule(x, "go 2");
        is("a RULE is not IN FORCE by being told", x.count(7), NONE);
        is("force 1", x.force(1), NONE);
        is("force 0", x.force(0), 1);
        is("force 2 without it", x.force(2), -2);
        is("force -2", x.force(-2), -2);
        is("0 is still IN FORCE", x.count(7), 0);
        is("force NONE", x.force(NONE), 0);
        is("none is", x.count(7), NONE);
    }

    private static void p7() {
        EelThroat x = Due.with(BROOK);
        int[][] want = {{2, 1, 0, 0}, {6, 2, 1, 1}, {5, 3, 0, 3}};
        for (int m = 0; m < 3; m++) {
            for (int what = 0; what < 4; what++) {
                is("memory(" + m + ", " + what + ")", x.memory(m, what), want[m][what]);
            }
        }
        is("memory(-1, 0)", x.memory(-1, 0), -2);
        is("memory(3, 0)", x.memory(3, 0), -2);
        is("memory(0, -1)", x.memory(0, -1), -2);
        is("memory(0, 4)", x.memory(0, 4), -2);
        Due.nights(x, 2);
        x.lift(0);
        is("HAD", x.memory(0, 3), 31);
        is("in a TRAP", x.memory(1, 3), 21);
        is("at SEA", x.memory(2, 3), NONE);
    }

    private static void p8() {
        EelThroat x = Due.with(BROOK);
        int[][] want = {{2, 3, 1, 1, NONE}, {3, 9, 2, 0, NONE}};
        for (int t = 0; t < 2; t++) {
            for (int what = 0; what < 5; what++) {
                is("trap(" + t + ", " + what + ")", x.trap(t, what), want[t][what]);
            }
        }
        is("trap(-1, 0)", x.trap(-1, 0), -2);
        is("trap(2, 0)", x.trap(2, 0), -2);
        is("trap(0, -1)", x.trap(0, -1), -2);
        is("trap(0, 5)", x.trap(0, 5), -2);
        Due.nights(x, 2);
        is("what is in it", x.trap(0, 4), 0);
        is("what is in it", x.trap(1, 4), 1);
    }

    private static void p9() {
        EelThroat x = Due.with(BROOK);
        is("person(1)", x.person(1), 0);
        Due.nights(x, 2);
        x.lift(0);
        is("person(1)", x.person(1), 1);
        is("person(0)", x.person(0), 0);
        is("person(2)", x.person(2), NONE);
        is("person(-1)", x.person(-1), NONE);
    }

    private static void p10() {
        EelThroat x = Due.with(BROOK);
        is("moon(0)", x.moon(0), 3);
        is("moon(1)", x.moon(1), 7);
        is("moon(2)", x.moon(2), NONE);
        is("moon(-1)", x.moon(-1), NONE);
        x = Due.with("river 2 1");
        is("moon(0)", x.moon(0), 0);
        is("moon(1)", x.moon(1), NONE);
    }

    private static void p11Without() {
        EelThroat x = Due.with(BROOK);
        is("NIGHT 0", x.night(), 0);
        is("one down", x.memory(0, 3), 1);
        is("one down", x.memory(1, 3), 2);
        is("BIG goes to SEA", x.memory(2, 3), NONE);
        is("NIGHT 1", x.night(), 3);
        is("into a TRAP", x.memory(0, 3), 20);
        is("NIGHT is 2", x.count(8), 2);
        x = Due.with("river 2 5;person 1;memory 1 4 0 0;memory 0 9 0 0");
        Due.nights(x, 1);
        is("a small one stays", x.memory(0, 3), 1);
        is("a big one that came stays", x.memory(1, 3), 1);
        Due.nights(x, 1);
        is("a small one stays", x.memory(0, 3), 1);
        is("a big one goes then", x.memory(1, 3), NONE);
        x = Due.with("river 2 5;person 1;memory 1 5 2 0;trap 1 9 2 0");
        is("SEA is ahead of TRAPS", x.night(), 0);
        is("SEA is ahead of TRAPS", x.memory(0, 3), NONE);
    }

    /** Where one MEMORY of SIZE 2 and SMELL 3 in the middle of three POOLS goes. */
    private static void goes(String rule, int to) {
        EelThroat x = Due.with("river 3 9;moon 4;moon 6;moon 8;person 1;person 2;memory 0 9 0 0;memory 1 2 3 1"
            + ";memory 2 1 3 0;memory 2 1 1 0;trap 0 1 3 0;trap 0 1 5 0;trap 2 1 3 0", rule);
        is("goes by " + rule, x.ahead(1, 1), to);
    }

    private static void p11Rules() {
        goes("go pool", 2);
        goes("go 3 - pool", 0);
        goes("go 2 - pool", 0);
        goes("go 0", 1);
        goes("go 0 - pool", 1);
        goes("go 5", 0);
        goes("go 5 if pool >= 1", 1);
        goes("go 5 if pool > 1", 2);
        goes("go 5 if pool < 1", 0);
        goes("go 5 if pool <= 1;go 6", 2);
        goes("go 6 if pool = 1;go 6 if pool = 2;go 1", 1);
        goes("go 1 if pool = 2;go 9 if pool = 2", 2);
        goes("go 7 - 2 - pool", 0);
        goes("go 2 + pool * 3 - 4", 2);
        goes("go 7 / 2 - 2 if pool = 2", 2);
        goes("go 4 / 2 - 2 if pool = 2", 1);
        goes("go 1 - 4 / 3 if pool = 2", 1);
        goes("go 0 - 7 % 4 + 4 if pool = 2", 2);
        goes("go 5 / 0 if pool = 2", 1);
        goes("go 5 % 0 if pool = 2", 1);
        goes("go 24 / 4 / 3 * 2 % 3 if pool = 2", 2);
        goes("go 1 if pool = 0 and pool = 1 or pool = 2", 2);
        goes("go 1 if pool = 2 or pool = 0 and pool = 1", 2);
        goes("go 1 if [pool = 2 or pool = 0] and pool = 0", 0);
        goes("go 1 if not pool = 0 and pool > 0", 1);
        goes("go 1 if not [pool = 0 or pool = 1]", 2);
        goes("go 1 if not not pool = 2", 2);
        // 99999 four times by itself goes round.
        goes("go 99999 * 99999 * 99999 * 99999", 99999L * 99999L * 99999L * 99999L > 0 ? 0 : 1);
        goes("go 0 - 99999 * 99999 * 99999 * 99999", 99999L * 99999L * 99999L * 99999L < 0 ? 0 : 1);
    }

    private static void p11Words() {
        goes("go 1 if memory = 1 and pool = 2", 2);
        goes("go 1 if from = 1 and pool = 2", 2);
        goes("go 1 if size = 2 and pool = 2", 2);
        goes("go 1 if smell = 3 and pool = 2", 2);
        goes("go bait", 0);
        goes("go 1 if bait = 1 and pool = 2", 2);
        goes("go traps", 0);
        goes("go 1 if traps = 1", 2);
        goes("go 1 if traps = 2", 0);
        goes("go with", 2);
        goes("go 1 if with = 0", 1);
        goes("go 1 if with = 1", 0);
        goes("go 1 if light = 4 and next = 6 and pool = 2", 2);
        goes("go 1 if whose = 1 and pool = 2", 2);
        goes("go 1 if night = 0 and pool = 2", 2);
        EelThroat x = Due.with("river 9 9;moon 4;moon 6;person 1;memory 0 1 0 0",
            "go pool + 1 if light = 6 and next = 4;go 1 if light = 4 and next = 6 and pool = from");
        is("goes every second NIGHT", x.ahead(0, 10), 5);
        x = Due.with("river 9 9;person 1;memory 0 1 0 0", "go pool + 1 if night >= 3");
        is("goes from NIGHT 3 on", x.ahead(0, 5), 2);
        x = Due.with("river 2 9;person 1;memory 1 1 0 0;memory 0 1 0 0;trap 1 1 0 0",
            "go 9 if memory = 0 and pool = 1;go 5 if memory = 1 and bait = 1");
        is("the TRAP is empty", x.night(), 1);
        is("it came", x.memory(1, 3), 1);
        x = Due.with("river 2 9;person 1;memory 1 1 0 0;memory 0 1 0 0;trap 1 1 0 0",
            "go 9 if memory = 0 and pool = 1;go 5 if memory = 1 and bait = 1 and night = 1;go traps if night = 2");
        is("the TRAP takes one", x.night(), 1);
        x.night();
        is("a TRAP that is not empty has no BAIT", x.memory(1, 3), 0);
        x.night();
        is("a TRAP that is not empty is there", x.memory(1, 3), 1);
    }

    private static void p11Order() {
        // All at once: each wants to be where nobody else is, by how it was.
        EelThroat x = Due.with("river 2 9;person 1;memory 0 1 0 0;memory 0 1 1 0", "go 1 if with = 0");
        x.night();
        is("both go", x.memory(0, 3) + 10 * x.memory(1, 3), 11);
        // The first TRAP takes the least MEMORY, the second what is left; a throat may be too small.
        x = Due.with("river 2 9;person 1;memory 1 8 0 0;memory 1 2 0 0;memory 1 1 0 0;trap 1 2 0 0;trap 1 9 0 0;trap 1 9 1 0");
        is("into the TRAPS", x.night(), 3);
        is("the first", x.trap(0, 4), 1);
        is("the second", x.trap(1, 4), 0);
        is("another BAIT", x.trap(2, 4), NONE);
        is("no room", x.memory(2, 3), 1);
        is("one TRAP takes one", x.night(), 0);
        x = Due.with("river 2 9");
        for (int i = 0; i < 500; i++) {
            x.night();
        }
        is("NIGHT 500", x.image(0), 500);
        x = Due.with("river 2 9;person 1;memory 0 1 0 0", "go 1 if pool = 0;go 2 if night >= 1000");
        for (int i = 0; i < 998; i++) {
            x.night();
        }
        is("NIGHT 998", x.night(), 0);
        is("NIGHT 999", x.night(), NONE);
        is("NIGHT 999", x.count(8), 999);
        is("NIGHTS that are asked go on", x.ahead(0, 2), 1);
    }

    private static void p12() {
        EelThroat x = Due.with(BROOK);
        is("an empty one", x.lift(0), NONE);
        Due.nights(x, 2);
        is("lift(0)", x.lift(0), 0);
        is("its KEEPER HAS it", x.memory(0, 3), 31);
        is("it is empty", x.trap(0, 4), NONE);
        is("it is sunk there", x.trap(0, 0), 2);
        is("with its BAIT", x.trap(0, 2), 1);
        is("lift(0) again", x.lift(0), NONE);
        is("too heavy", x.lift(1), NONE);
        is("it stays", x.memory(1, 3), 21);
        is("lift(2)", x.lift(2), NONE);
        is("lift(-1)", x.lift(-1), NONE);
        is("three ACTS", x.count(12), 3);
        x = Due.with("river 2 9;person 4;memory 1 4 0 0;trap 1 9 0 0");
        x.night();
        is("just STRONG enough", x.lift(0), 0);
    }

    private static void p13() {
        EelThroat x = Due.with(BROOK);
        is("as it is", x.sink(0, 2, 1), NONE);
        is("another POOL", x.sink(0, 1, 1), 8 * 2 + 1);
        is("another BAIT", x.sink(0, 1, 7), 8 + 1);
        is("both", x.sink(0, 3, 0), 8 + 7);
        is("where", x.trap(0, 0), 3);
        is("with what", x.trap(0, 2), 0);
        is("pool 4", x.sink(0, 4, 0), NONE);
        is("pool -1", x.sink(0, -1, 0), NONE);
        is("bait 8", x.sink(0, 0, 8), NONE);
        is("bait -1", x.sink(0, 0, -1), NONE);
        is("trap 2", x.sink(2, 0, 0), NONE);
        is("trap -1", x.sink(-1, 0, 0), NONE);
        is("three ACTS", x.count(12), 3);
        Due.nights(x, 2);
        is("one that is not empty", x.sink(1, 0, 0), NONE);
    }

    private static void p14() {
        EelThroat x = handsFull();
        is("free(0, 0)", x.free(0, 0), 0);
        is("FREE", x.memory(0, 3), 0);
        is("nobody HAS it", x.person(0), 0);
        is("one that is FREE", x.free(0, 1), NONE);
        is("pool 2", x.free(1, 2), NONE);
        is("pool -1", x.free(1, -1), NONE);
        is("memory 4", x.free(4, 0), NONE);
        is("memory -1", x.free(-1, 0), NONE);
        is("free(3, 1)", x.free(3, 1), 3);
        is("FREE", x.count(9), 9);
        is("seven ACTS", x.count(12), 7);
        x.night();
        is("one in a TRAP", x.free(0, 0), NONE);
    }

    private static void p15() {
        EelThroat x = handsFull();
        is("give(0, 1)", x.give(0, 1), 0);
        is("who HAS them", x.person(1), 3);
        is("to whom HAS it", x.give(0, 1), NONE);
        is("give(0, 3)", x.give(0, 3), 1);
        is("person 4", x.give(0, 4), NONE);
        is("person -1", x.give(0, -1), NONE);
        is("memory 4", x.give(4, 0), NONE);
        is("memory -1", x.give(-1, 0), NONE);
        is("seven ACTS", x.count(12), 7);
        x.free(0, 0);
        is("one that is FREE", x.give(0, 1), NONE);
    }

    private static void p16() {
        EelThroat x = Due.with(BROOK, "go pool + 1");
        x.force(NONE);
        Due.nights(x, 2);
        x.lift(0);
        x.give(0, 0);
        x.free(0, 1);
        x.sink(0, 0, 0);
        is("six ACTS", x.count(12), 6);
        is("undo sink", x.undo(), 5);
        is("the TRAP", 8 * x.trap(0, 0) + x.trap(0, 2), 17);
        x.force(0);
        x.seed(9);
        x.note(1, 1, 1);
        is("undo free", x.undo(), 4);
        is("HAD again", x.memory(0, 3), 30);
        is("undo give", x.undo(), 3);
        is("HAD again", x.memory(0, 3), 31);
        is("undo lift", x.undo(), 2);
        is("in the TRAP again", x.memory(0, 3) + 100 * x.trap(0, 4), 20);
        is("undo night", x.undo(), 1);
        is("FREE again", x.memory(0, 3) + 100 * x.trap(0, 4), 1 - 100);
        is("NIGHT 1", x.count(8), 1);
        is("at SEA still", x.count(10), 4);
        is("undo night", x.undo(), 0);
        is("not at SEA", x.count(10), 0);
        is("NIGHT 0", x.count(8), 0);
        is("none", x.undo(), NONE);
        is("the RULE IN FORCE", x.count(7), 0);
        is("x", x.count(13), 9);
        is("NOTES", x.count(11), 1);
        Due.nights(x, 23);
        is("twenty ACTS", x.count(12), 20);
        for (int i = 19; i >= 10; i--) {
            is("undo", x.undo(), i);
        }
        is("NIGHT 13", x.count(8), 13);
        Due.nights(x, 4);
        for (int i = 13; i >= 0; i--) {
            is("undo", x.undo(), i);
        }
        is("NIGHT 3", x.count(8), 3);
        is("none", x.undo(), NONE);
        is("nothing happens", x.count(8), 3);
    }

    private static void p17() {
        EelThroat x = Due.with(BROOK);
        is("now", x.ahead(0, 0), 0);
        is("1", x.ahead(0, 1), 1);
        is("2", x.ahead(0, 2), 20);
        is("100", x.ahead(1, 100), 21);
        is("SEA", x.ahead(2, 1), NONE);
        is("n 101", x.ahead(0, 101), -2);
        is("n -1", x.ahead(0, -1), -2);
        is("memory 3", x.ahead(3, 1), -2);
        is("memory -1", x.ahead(-1, 1), -2);
        is("nothing changes", x.memory(0, 3) + x.count(8) + x.count(12), 0);
        x = handsFull();
        is("HAD", x.ahead(2, 50), 32);
    }

    private static void p18() {
        EelThroat x = Due.with(BROOK);
        is("NIGHT", x.caught(0, 0), 1);
        is("TRAP", x.caught(1, 1), 1);
        is("SEA", x.caught(2, 0), -2);
        is("SEA", x.caught(2, 1), -2);
        is("what 2", x.caught(0, 2), NONE);
        is("what -1", x.caught(0, -1), NONE);
        is("memory 3", x.caught(3, 0), NONE);
        is("memory -1", x.caught(-1, 0), NONE);
        x.night();
        is("this NIGHT", x.caught(0, 0), 1);
        is("at SEA", x.caught(2, 0), NONE);
        x.night();
        is("in a TRAP", x.caught(0, 0), NONE);
        x = Due.with("river 2 9;person 1;memory 0 1 0 0;trap 1 1 0 0", "go 1 if pool = from and night < 199;go pool");
        is("the 200th", x.caught(0, 0), 199);
        x = Due.with("river 2 9;person 1;memory 0 1 0 0;trap 1 1 0 0", "go 1 if pool = from and night < 200;go pool");
        is("the 201st", x.caught(0, 0), -2);
        x.night();
        is("the 200th from now", x.caught(0, 0), 200);
        is("its TRAP", x.caught(0, 1), 0);
    }

    private static void p19() {
        EelThroat x = Due.with(BROOK);
        is("0", x.atSea(0), 0);
        is("1", x.atSea(1), 4);
        is("100", x.atSea(100), 4);
        is("101", x.atSea(101), NONE);
        is("-1", x.atSea(-1), NONE);
        x.night();
        is("0", x.atSea(0), 4);
        x = Due.with("river 2 1;person 1;memory 0 1 0 0;memory 1 9 0 0", "go 1 if night < 99;go pool");
        is("99", x.atSea(99), 0);
        is("100 comes down", x.atSea(100), 0);
        x.night();
        is("100 goes", x.atSea(100), 3);
    }

    private static void p20() {
        EelThroat x = Due.with(BROOK);
        is("full", x.full(), 1);
        Due.nights(x, 2);
        is("already: behind this one", x.full(), 2);
        x.lift(0);
        is("never", x.full(), -2);
        is("without TRAPS", Due.with("river 2 1").full(), 0);
        x = Due.with("river 2 9;person 1;memory 0 1 0 0;trap 1 1 0 0", "go 1 if pool = from and night < 200;go pool");
        is("the 201st", x.full(), -2);
        x.night();
        is("the 200th", x.full(), 200);
        x = Due.with("river 2 1");
        Due.nights(x, 5);
        is("without TRAPS this one", x.full(), 5);
    }

    private static void p21() {
        EelThroat x = Due.with(BROOK);
        // As it is both are caught, and the third one goes to SEA in any case.
        is("how many", x.bestSink(0, 2, 0), 2);
        is("as it is", x.bestSink(0, 2, 1), NONE);
        is("as it is", x.bestSink(0, 2, 2), NONE);
        // In one NIGHT only 0 into POOL 1 can be caught by it, or 1 into 2 - too big for its throat.
        is("how many", x.bestSink(0, 1, 0), 1);
        is("POOL", x.bestSink(0, 1, 1), 1);
        is("BAIT", x.bestSink(0, 1, 2), 1);
        is("another TRAP", 10 * x.bestSink(1, 1, 1) + x.bestSink(1, 1, 2), 11);
        is("n 0", x.bestSink(0, 0, 0), -2);
        is("n 41", x.bestSink(0, 41, 0), -2);
        is("n 40", x.bestSink(0, 40, 0), 2);
        is("what 3", x.bestSink(0, 1, 3), -2);
        is("what -1", x.bestSink(0, 1, -1), -2);
        is("trap 2", x.bestSink(2, 1, 0), -2);
        is("trap -1", x.bestSink(-1, 1, 0), -2);
        is("nothing changes", x.trap(0, 0), 2);
        Due.nights(x, 2);
        is("not empty", x.bestSink(0, 1, 0), -2);
        x.lift(0);
        is("what is in TRAPS counts", x.bestSink(0, 1, 0), 1);
        // It stays as long as POOL 2 has one TRAP: there POOL 1 is the least by which it is caught.
        x = Due.with("river 3 9;person 1;memory 1 1 3 0;trap 0 9 2 0;trap 2 1 3 0", "go traps if pool = 2;go 1 if pool = from");
        is("how many", x.bestSink(0, 1, 0), 1);
        is("the least POOL", x.bestSink(0, 1, 1), 1);
        is("the BAIT", x.bestSink(0, 1, 2), 3);
        // By BAIT 0 the TRAP has MEMORY 0, which the other one would have; by BAIT 4 both have one.
        x = Due.with("river 2 9;person 1;memory 1 1 0 0;memory 1 1 4 0;trap 1 9 7 0;trap 1 9 0 0");
        is("both", x.bestSink(0, 1, 0), 2);
        is("where it is", x.bestSink(0, 1, 1), 1);
        is("the greater BAIT", x.bestSink(0, 1, 2), 4);
        // A BAIT that nobody smells can be best: the TRAP, too small itself, calls it into the other one.
        x = Due.with("river 3 9;person 1;memory 1 2 3 0;trap 0 1 3 0;trap 2 9 3 0", "go 1 if traps = 2");
        is("by two TRAPS in one POOL", x.bestSink(0, 1, 0), 1);
        is("POOL", x.bestSink(0, 1, 1), 2);
        is("the least BAIT", x.bestSink(0, 1, 2), 0);
    }

    private static void p22() {
        EelThroat x = Due.with("river 4 9;person 1;memory 0 1 0 0;memory 3 1 1 0;trap 2 9 0 0");
        // By one NIGHT down: from 0 to 1; from 1 into the TRAP; from 2 and from 3 to 3.
        is("to 1", x.lay(0, 1, 1, 1), 1);
        is("to 2", x.lay(0, 1, 2, 1), 0);
        is("to 3", x.lay(0, 1, 3, 1), 12);
        is("to 3", x.lay(0, 1, 3, 0), 2);
        is("to 0", x.lay(0, 1, 0, 0), 0);
        is("40", x.lay(1, 40, 3, 1), 15);
        is("n 0", x.lay(0, 0, 1, 0), NONE);
        is("n 41", x.lay(0, 41, 1, 0), NONE);
        is("pool 4", x.lay(0, 1, 4, 0), NONE);
        is("pool -1", x.lay(0, 1, -1, 0), NONE);
        is("what 2", x.lay(0, 1, 1, 2), NONE);
        is("what -1", x.lay(0, 1, 1, -1), NONE);
        is("memory 2", x.lay(2, 1, 1, 0), NONE);
        is("memory -1", x.lay(-1, 1, 1, 0), NONE);
        Due.nights(x, 2);
        is("in a TRAP", x.lay(0, 1, 3, 0), NONE);
    }

    private static void p23() {
        EelThroat x = Due.with("river 4 9;person 1;memory 0 5 0 0;memory 0 3 0 0;trap 2 1 0 0;trap 2 9 1 0");
        is("1 NIGHT", x.throats(0, 1), -2);
        is("2 NIGHTS", x.throats(0, 2), 3);
        is("another BAIT", x.throats(1, 40), -2);
        is("the widest", Due.with("river 3 9;person 1;memory 0 9 0 0;trap 1 1 0 0").throats(0, 1), 9);
        is("n 0", x.throats(0, 0), NONE);
        is("n 41", x.throats(0, 41), NONE);
        is("trap 2", x.throats(2, 1), NONE);
        is("trap -1", x.throats(-1, 1), NONE);
        x = Due.with(BROOK);
        Due.nights(x, 2);
        is("not empty", x.throats(0, 1), NONE);
    }

    private static void p24() {
        EelThroat x = handsFull();
        is("all", x.astray(), 15);
        x.give(0, 1);
        is("one less", x.astray(), 14);
        x.free(3, 0);
        is("one that is FREE", x.astray(), 6);
        is("none", Due.with("river 2 1").astray(), 0);
    }

    private static void p25() {
        EelThroat x = handsFull();
        // 0 HAS of 1 and 1 of 0, 2 of 3 and 3 of 2.
        is("two twos, and all", x.rings(0), 3);
        is("the largest", x.rings(1), 15);
        x.give(0, 1);
        is("one two", x.rings(0), 1);
        is("the largest", x.rings(1), 12);
        is("what 2", x.rings(2), NONE);
        is("what -1", x.rings(-1), NONE);
        // 0 is of 1, 1 of 0, 2 of 3, 3 of 2: 0 with 3, 3 with 1, 1 and 2 with 0 and 2.
        x = handsFull();
        x.give(0, 3);
        x.give(3, 1);
        // 3 HAS of 1, 1 HAS of 0 and of 2, 2 HAS of 3, 0 HAS none: 3, 1 and 2 are a ring.
        is("a ring of three", x.rings(0), 1);
        is("a ring of three", x.rings(1), 14);
        x.free(2, 0);
        is("none", x.rings(0), 0);
        is("none", x.rings(1), 0);
        x = handsFull();
        x.free(3, 0);
        x.free(2, 0);
        is("of several", x.rings(1), 3);
    }

    private static void p26() {
        EelThroat x = handsFull();
        is("GIVES", x.right(0), 4);
        is("the first", x.right(1), 0);
        is("to whom", x.right(2), 1);
        x.give(0, 1);
        x.give(1, 0);
        is("GIVES", x.right(0), 2);
        is("the first", x.right(1), 2);
        is("to whom", x.right(2), 3);
        x.give(2, 3);
        x.give(3, 2);
        is("none", x.right(0), 0);
        is("none", x.right(1), -2);
        is("none", x.right(2), -2);
        is("what 3", x.right(3), NONE);
        is("what -1", x.right(-1), NONE);
    }

    private static void p27() {
        EelThroat x = Due.with("river 5 9;person 1;person 1;person 1;memory 0 1 0 2;memory 0 1 0 1;trap 2 9 0 0",
            "go pool + 1 if whose = 1;go 1 if pool = from");
        is("without NOTES all", x.of(0), 7);
        x.note(1, 0, 1);
        is("it went", x.of(0), 2);
        is("not by the other one", x.of(1), 0);
        x.note(NONE, 0, 0);
        x.note(1, 0, 0);
        is("it stayed", x.of(0), 5);
        x.note(2, 1, NONE);
        is("the other one as told", x.of(0), 5);
        is("both", x.of(1), 2);
        Due.nights(x, 3);
        x.sink(0, 1, 1);
        is("from the begin on", x.of(0), 5);
        x.force(NONE);
        is("by the RULE IN FORCE", x.of(0), 0);
        is("memory 2", x.of(2), NONE);
        is("memory -1", x.of(-1), NONE);
    }

    private static void p28() {
        EelThroat x = Due.with("river 2 9;person 1;memory 1 3 5 0;memory 1 4 2 0;trap 1 9 0 0;trap 1 9 0 0;trap 1 9 0 0");
        // One has 4 by BAIT 2, 3 by 5; the first one comes ahead of the second: 2 and 5 alone is steady,
        // for by 2 the second one gets nothing, and by 5 the first one has less.
        is("how many", x.rests(0, 1, 1, 0), 1);
        is("the first's", x.rests(0, 1, 1, 1), 2);
        is("the second's", x.rests(0, 1, 1, 2), 5);
        is("the other way round", x.rests(1, 0, 1, 0), 1);
        is("the other way round", x.rests(1, 0, 1, 1), 5);
        is("the other way round", x.rests(1, 0, 1, 2), 2);
        is("n 20", x.rests(0, 1, 20, 1), 2);
        is("n 21", x.rests(0, 1, 21, 0), NONE);
        is("n 0", x.rests(0, 1, 0, 0), NONE);
        is("alike", x.rests(1, 1, 1, 0), NONE);
        is("trap 3", x.rests(0, 3, 1, 0), NONE);
        is("trap -1", x.rests(-1, 0, 1, 0), NONE);
        is("what 3", x.rests(0, 1, 1, 3), NONE);
        is("what -1", x.rests(0, 1, 1, -1), NONE);
        x.sink(0, 1, 5);
        x.night();
        is("not empty", x.rests(0, 1, 1, 0), NONE);
        is("empty ones", x.rests(1, 2, 1, 1), 2);
        // Nobody near: all twos are as good.
        x = Due.with("river 2 9;person 1;trap 0 1 0 0;trap 0 1 0 0");
        is("all", x.rests(0, 1, 1, 0), 64);
        is("the first", x.rests(0, 1, 1, 1) + x.rests(0, 1, 1, 2), 0);
        // Drawn harder by the first one, it goes there if that has BAIT 0, whatever the second one has.
        x = Due.with("river 3 9;person 1;memory 1 1 0 0;trap 0 9 1 0;trap 2 9 1 0", "go bait if pool = 2;go 2 if bait = 1");
        is("BAIT 0 of the first one", x.rests(0, 1, 1, 0), 8);
        is("its first", 10 * x.rests(0, 1, 1, 1) + x.rests(0, 1, 1, 2), 0);
        // What both have by 0 0: 0 5; 0 1: 1 2; 1 0: 2 1; 1 1: 0 2; another of one of both: never more of its own.
        x = Due.with("river 2 9;person 1;memory 0 5 0 0;memory 1 2 1 0;memory 0 1 0 0;memory 1 1 0 0;trap 1 9 7 0;trap 0 8 7 0",
            "go 1 if pool < from and bait = 1;go 1 if pool > from and bait = 0");
        is("none rests", x.rests(0, 1, 1, 0), 0);
        is("none rests", x.rests(0, 1, 1, 1), -2);
        is("none rests", x.rests(0, 1, 1, 2), -2);
    }

    private static void p29() {
        EelThroat x = Due.with("river 3 9;moon 1;moon 2;person 1;memory 0 1 0 0");
        // Down to 2 behind two NIGHTS, there for good: NIGHT 2 is as NIGHT 4.
        is("NIGHT", x.cycle(0), 2);
        is("how much later", x.cycle(1), 2);
        x.night();
        is("NIGHT", x.cycle(0), 2);
        is("what 2", x.cycle(2), NONE);
        is("what -1", x.cycle(-1), NONE);
        x = Due.with("river 3 9;person 1;memory 0 1 0 0", "go 9 if pool = 1 and not from = 1;go 5 if pool = 0;go 5 if pool = 2");
        is("to and fro", x.cycle(0), 0);
        is("to and fro", x.cycle(1), 2);
        x = Due.with("river 2 1" + ";moon 1".repeat(12));
        is("without MEMORIES", x.cycle(0), 0);
        is("without MEMORIES", x.cycle(1), 12);
        String late = "river 2 9;moon 0;moon 0;moon 0;person 1;memory 0 1 0 0";
        // It stays above up to NIGHT 60; from then on below, but NIGHT 1 is as NIGHT 4 already.
        x = Due.with(late, "go 1 if pool = 0 and night < 57;go pool");
        is("a stay", x.cycle(0) * 10 + x.cycle(1), 3);
        x = Due.with("river 12 9;person 1;memory 11 1 0 0", "go 9 - light if pool = 10 or pool = 11 and from = 10");
        is("up once, then a stay", x.cycle(0) * 10 + x.cycle(1), 11);
        x = Due.with("river 12 9;person 1;memory 0 1 0 0", "go pool if night % 6 = 5;go 1 if pool = from");
        is("stays of five", x.cycle(0) * 10 + x.cycle(1), 1);
        x = Due.with("river 12 9;moon 0;moon 0;moon 0;moon 0;moon 0;moon 0;person 1;memory 0 1 0 0",
            "go pool + 1 if night % 5 = 4;go 1 if pool = from");
        is("down to the last POOL behind 55, none alike until 61", x.cycle(0), -2);
        is("none", x.cycle(1), -2);
        x.night();
        is("55 is as 61", x.cycle(0) * 100 + x.cycle(1), 5506);
    }

    private static void p30() {
        EelThroat x = handsFull();
        // SIZES 1, 2, 3, 4 of 10.
        int[] of13 = {1, 3, 4, 5};
        // 1.3, 2.6, 3.9, 5.2: two are left, for 2 and 1.
        for (int p = 0; p < 4; p++) {
            is("13 pence", x.pence(13, p), of13[p]);
        }
        int[] of5 = {1, 1, 1, 2};
        // 0.5, 1.0, 1.5, 2.0: one is left, of 0 and 2 for 0.
        for (int p = 0; p < 4; p++) {
            is("5 pence", x.pence(5, p), of5[p]);
        }
        is("0 pence", x.pence(0, 3), 0);
        // 999.9, 1999.8, 2999.7, 3999.6: three are left.
        is("9999 pence", x.pence(9999, 2), 3000);
        is("9999 pence", x.pence(9999, 3), 3999);
        is("10000 pence", x.pence(10000, 3), NONE);
        is("-1 pence", x.pence(-1, 3), NONE);
        is("person 4", x.pence(5, 4), NONE);
        is("person -1", x.pence(5, -1), NONE);
        is("nobody HAS any", Due.with(HANDS).pence(5, 0), 0);
        x.give(0, 3);
        is("one who HAS none", x.pence(13, 0), 0);
    }

    private static void p31() {
        EelThroat x = Due.with(BROOK);
        is("n 61", x.note(61, 0, 0), -2);
        is("n -2", x.note(-2, 0, 0), -2);
        is("memory 3", x.note(0, 3, 0), -2);
        is("memory -1", x.note(0, -1, 0), -2);
        is("pool 4", x.note(0, 0, 4), -2);
        is("pool -2", x.note(0, 0, -2), -2);
        is("none yet", x.count(11), 0);
        for (int i = 1; i <= 10; i++) {
            is("note", x.note(60, 2, i % 5 - 1), i);
        }
        is("an eleventh", x.note(0, 0, 0), -2);
        is("ten", x.count(11), 10);
        is("none then", x.note(NONE, 99, 99), 0);
        is("none", x.count(11), 0);
        is("one", x.note(0, 0, NONE), 1);
        is("no ACTS", x.count(12), 0);
        is("none without a RIVER", new EelThroat().note(NONE, 0, 0), 0);
    }

    private static final String GUESS = "river 5 9;person 1;memory 2 1 0 0;memory 2 1 1 0;memory 2 1 7 0;trap 3 9 7 0";

    private static EelThroat guessing() {
        EelThroat x = Due.with(GUESS);
        Due.rule(x, "go 9 - pool");
        Due.rule(x, "go pool + 1 if memory = 1;go 9 - pool");
        Due.rule(x, "go 1 if pool = from");
        return x;
    }

    private static void p32() {
        EelThroat x = guessing();
        is("all without NOTES", x.ruled(0), 4);
        is("none is the first", x.ruled(1), NONE);
        x.note(1, 0, 1);
        is("up", x.ruled(0), 2);
        is("the first", x.ruled(1), 0);
        x.note(1, 1, 3);
        is("one", x.ruled(0), 1);
        is("the first", x.ruled(1), 1);
        Due.nights(x, 2);
        x.force(2);
        is("from the begin on, by any", x.ruled(1), 1);
        x.note(0, 0, 1);
        is("none such", x.ruled(0), 0);
        is("none such", x.ruled(1), -2);
        x.note(NONE, 0, 0);
        x.note(1, 2, NONE);
        is("in a TRAP", x.ruled(0), 1);
        is("in a TRAP", x.ruled(1), NONE);
        is("what 2", x.ruled(2), -3);
        is("what -1", x.ruled(-1), -3);
        x.note(NONE, 0, 0);
        x.note(60, 0, 4);
        is("NIGHT 60", x.ruled(0), 1);
    }

    private static void p33() {
        EelThroat x = guessing();
        // NIGHT 1: MEMORY 0 in 3, 1, 1, 2; MEMORY 1 in 3, 1, 3, 2; MEMORY 2 in none, 1, 1, 2.
        is("the least", x.look(1, 0), 0);
        is("two alike", x.look(1, 1), 2);
        is("at the begin all are", x.look(0, 1), 4);
        x.note(1, 0, 1);
        is("1 parts these", x.look(1, 0), 1);
        is("one alike", x.look(1, 1), 1);
        is("n 61", x.look(61, 0), NONE);
        is("n -1", x.look(-1, 0), NONE);
        is("what 2", x.look(0, 2), NONE);
        is("what -1", x.look(0, -1), NONE);
        is("n 60", x.look(60, 0), 1);
        x.note(1, 0, 0);
        is("none is so", x.look(1, 0), -2);
        is("none is so", x.look(1, 1), -2);
        is("no MEMORIES", Due.with("river 2 1").look(0, 0), -2);
        is("no MEMORIES", Due.with("river 2 1").look(0, 1), -2);
        // SEA, TRAPS: all none.
        x = Due.with("river 2 1;person 1;memory 1 1 0 0;memory 0 1 1 0;trap 0 9 0 0", "go 1 if pool = 0");
        is("none and none are alike", x.look(1, 0), 1);
    }

    private static void p34() {
        EelThroat x = new EelThroat();
        is("at first", x.seed(5), 0);
        is("then", x.seed(Integer.MAX_VALUE), 5);
        is("below 0", x.seed(-1), NONE);
        is("the greatest", x.seed(0), Integer.MAX_VALUE);
        is("0", x.count(13), 0);
    }

    private static int caughtByDraws(long x, int m, int n, int p) {
        int many = 0;
        for (int time = 0; time < m; time++) {
            boolean caught = false;
            for (int i = 0; i < n; i++) {
                x = (x * 1103515245L + 12345L) % 2147483648L;
                int light = 0;
                if (x / 65536L % 100 < p) {
                    x = (x * 1103515245L + 12345L) % 2147483648L;
                    light = (int) (x / 65536L % 10);
                }
                caught |= light == 7;
            }
            many += caught ? 1 : 0;
        }
        return many;
    }

    private static void p35() {
        // It goes up into the TRAP in the first NIGHT of LIGHT 7.
        EelThroat x = Due.with("river 2 9;person 1;memory 1 1 0 0;trap 0 1 0 0", "go 1 if pool = 0 and light = 7 and next = 0");
        for (int seed = 0; seed < 40; seed++) {
            x.seed(seed * 12345);
            is("moons", x.moons(10, 5, 60, 0), caughtByDraws(seed * 12345L, 10, 5, 60));
        }
        is("x as it was", x.count(13), 39 * 12345);
        is("nothing stays", x.memory(0, 3) + x.count(8), 1);
        is("p 0", x.moons(10, 60, 0, 0), 0);
        x.seed(1);
        is("p 100", x.moons(10, 60, 100, 0), caughtByDraws(1, 10, 60, 100));
        is("m 0", x.moons(0, 5, 60, 0), NONE);
        is("m 11", x.moons(11, 5, 60, 0), NONE);
        is("n 0", x.moons(1, 0, 60, 0), NONE);
        is("n 61", x.moons(1, 61, 60, 0), NONE);
        is("p -1", x.moons(1, 5, -1, 0), NONE);
        is("p 101", x.moons(1, 5, 101, 0), NONE);
        is("what 2", x.moons(1, 5, 60, 2), NONE);
        is("what -1", x.moons(1, 5, 60, -1), NONE);
        x = Due.with(BROOK);
        is("in TRAPS, all together", x.moons(3, 2, 50, 0), 6);
        is("at SEA, all together", x.moons(3, 2, 50, 1), 3);
    }

    private static void p36() {
        EelThroat x = Due.with(BROOK, "go 9", "go pool + 1");
        x.note(0, 0, 0);
        x.seed(44);
        x.night();
        x.feed(0, 0, 0, 0, 0);
        int[] want = {4, 5, 2, 2, 3, 2, 2, 1, 1, 3, 4, 1, 1, 44, 20};
        for (int i = 0; i < want.length; i++) {
            is("count(" + i + ")", x.count(i), want[i]);
        }
        is("count(15)", x.count(15), NONE);
        is("count(-1)", x.count(-1), NONE);
    }

    private static void p37() {
        EelThroat x = Due.with(BROOK);
        is("image(0)", x.image(0), 0);
        x.night();
        is("image(3)", x.image(3), 1);
        is("image(4)", x.image(4), NONE);
        is("image(-1)", x.image(-1), NONE);
        is("ACTS stay", x.count(12), 1);
        x.night();
        is("made anew", x.image(0), 2);
        is("it is the newer one", x.back(0), 2);
    }

    private static void p38() {
        EelThroat x = Due.with(BROOK, "go pool + 1");
        is("never made", x.back(0), NONE);
        is("back(4)", x.back(4), NONE);
        is("back(-1)", x.back(-1), NONE);
        x.image(1);
        x.seed(3);
        x.note(1, 1, 2);
        Due.nights(x, 2);
        x.lift(0);
        x.image(2);
        Due.rule(x, "go 3");
        x.force(1);
        Due.river(x, "river 2 1");
        x.feed(0, 0, 0, 0, 0);
        is("back(2)", x.back(2), 2);
        int[] want = {4, 5, 2, 2, 3, 2, 2, 0, 2, 0, 4, 1, 0, 3, 20};
        for (int i = 0; i < want.length; i++) {
            is("back: count(" + i + ")", x.count(i), want[i]);
        }
        is("HAD", x.memory(0, 3), 31);
        is("none UNDONE", x.undo(), NONE);
        x.sink(0, 0, 0);
        x.night();
        is("back(2) again", x.back(2), 2);
        is("none UNDONE", x.count(12), 0);
        is("none UNDONE", x.undo(), NONE);
        is("the NOTE is so", x.ruled(0), 2);
        x.note(NONE, 0, 0);
        x.note(2, 0, 3);
        is("another one", x.ruled(0), 0);
        is("back(2) again", x.back(2), 2);
        is("the NOTE is as it was", x.ruled(0), 2);
        is("the TRAP", x.trap(0, 0), 2);
        is("back(1)", x.back(1), 0);
        is("x", x.count(13), 0);
        is("NOTES", x.count(11), 0);
        is("back(2) stays", x.back(2), 2);
        x = new EelThroat();
        is("without a RIVER", x.image(0), 0);
        Due.river(x, BROOK);
        x.night();
        is("without a RIVER", x.back(0), 0);
        is("without a RIVER", x.count(0) + x.count(2) + x.count(4) + x.count(5), 0);
        is("without a RIVER", x.night(), NONE);
    }
}
