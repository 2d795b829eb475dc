/** The edges that the document names for a RULE's text, its FAULTS and its VALUES, promises 5 and 6. */
public final class RuleEdgeTest {
    private static final int NONE = EelThroat.NONE;
    private static final Edge EDGE = new Edge("RuleEdgeTest");
    /** MEMORIES 0 to 5 in the highest of two POOLS. */
    private static final String SIX = "river 2 9;person 1" + ";memory 0 1 0 0".repeat(6);

    public static void main(String[] args) {
        clauses();
        facts();
        numbers();
        rounding();
        wordsOfOne();
        wordsOfTraps();
        wordsOfNights();
        depth();
        units();
        faults();
        promiseRule();
        promiseForce();
        EDGE.close();
    }

    private static void good(String text) {
        EDGE.is("'" + text + "'", Due.rule(new EelThroat(), text), 0);
    }

    private static void bad(String text, int place, int kind) {
        EDGE.is("'" + text + "'", Due.rule(new EelThroat(), text), -2 - (1 + 8 * place + kind));
    }

    /** A TEST, asked of MEMORY 1 (SIZE 2, SMELL 3, WHOSE 1) in POOL 1 and of the POOL 2. */
    private static void holds(String test, boolean so) {
        EelThroat x = Due.with("river 3 9;moon 4;moon 6;person 1;person 1;memory 0 9 0 0;memory 1 2 3 1",
            "go 1 if pool = 2 and [" + test + "]");
        EDGE.is("'" + test + "' holds", x.ahead(1, 1), so ? 2 : 1);
    }

    /** Where MEMORY 0 is behind n NIGHTS. */
    private static void goes(String river, String rule, int n, int to) {
        EDGE.is("by '" + rule + "' in '" + river + "' behind " + n, Due.with(river, rule).ahead(0, n), to);
    }

    private static void clauses() {
        EDGE.of("RULES 0 to 5: texts likewise, 12 CLAUSES at most", () -> {
            EelThroat x = Due.with(SIX);
            for (int i = 0; i < 6; i++) {
                EDGE.is("its number", Due.rule(x, "go 1 if memory = " + i + " and pool = 1"), i);
            }
            for (int i = 0; i < 6; i++) {
                x.force(i);
                for (int m = 0; m < 6; m++) {
                    EDGE.is("RULE " + i + " of MEMORY " + m, x.ahead(m, 1), m == i ? 1 : 0);
                }
            }
            good("go 1" + ";go 1".repeat(11));
            bad("go 1" + ";go 1".repeat(12), 60, 4);
            bad("go 1" + ";go 1".repeat(11) + ";  go 1", 62, 4);
            goes(SIX, "go 1 if 1=2;".repeat(11) + "go pool", 1, 1);
            good("go" + " ".repeat(397) + "1");
            bad("go 1" + " ".repeat(395) + "1", 399, 0);
            bad("go" + " ".repeat(398), 400, 0);
        });
        EDGE.of("go SUM [ if TEST ]", () -> {
            bad("", 0, 0);
            bad("go", 2, 0);
            bad("go if 1=1", 3, 0);
            bad("go 1 if", 7, 0);
            bad("go 1 if 1=1 if 1=1", 12, 0);
            bad("go 1;", 5, 0);
            bad("go 1;;go 1", 5, 0);
            bad("go 1 if 1=1;", 12, 0);
            bad("1", 0, 0);
        });
    }

    private static void facts() {
        EDGE.of("TEST: PART { or PART }. PART: FACT { and FACT }", () -> {
            holds("1=1 or 1=2 and 1=2", true);
            holds("1=2 and 1=2 or 1=1", true);
            holds("1=2 and 1=1 or 1=2", false);
            holds("1=2 or 1=1 and 1=1", true);
            holds("1=2 or 1=2 or 1=1", true);
            holds("1=1 and 1=1 and 1=2", false);
            holds("[1=1 or 1=2] and 1=2", false);
        });
        EDGE.of("FACT: not FACT | [ TEST ] (these brackets are signs) | SUM SIGN SUM", () -> {
            holds("not 1=1", false);
            holds("not 1=2", true);
            holds("not 1=2 and 1=2", false);
            holds("not 1=1 or 1=1", true);
            holds("not [1=1 or 1=1]", false);
            holds("not not 1=1", true);
            holds("[[1=1]]", true);
            bad("go 1 if []", 9, 0);
            bad("go 1 if [1=1", 12, 0);
            bad("go 1 if 1=1]", 11, 0);
            bad("go 1 if [1=1]]", 13, 0);
            bad("go 1 if [1]=1", 10, 0);
            bad("go [1]", 3, 0);
        });
        EDGE.of("SIGN one of < <= = >= >", () -> {
            String[] signs = {"<", "<=", "=", ">=", ">"};
            boolean[][] so = {{true, false, false}, {true, true, false}, {false, true, false}, {false, true, true}, {false, false, true}};
            for (int i = 0; i < signs.length; i++) {
                for (int left = 4; left <= 6; left++) {
                    holds(left + signs[i] + 5, so[i][left - 4]);
                    holds("0 - 6 " + signs[i] + " 0 - " + left, so[i][left == 6 ? 1 : 0]);
                }
            }
            bad("go 1 if 1 == 1", 11, 0);
            bad("go 1 if 1 =< 1", 11, 0);
            bad("go 1 if 1 => 1", 11, 0);
            bad("go 1 if 1 <> 1", 11, 0);
            bad("go 1 if 1 >< 1", 11, 0);
            bad("go 1 if 1 < = 1", 12, 0);
            bad("go 1 if 1 > = 1", 12, 0);
            bad("go 1 if 1 <== 1", 12, 0);
            bad("go 1 if 1 ! 1", 10, 0);
            bad("go 1 if 1 1", 10, 0);
            bad("go 1 if 1", 9, 0);
            bad("go 1 if 1<1<1", 11, 0);
        });
    }

    private static void numbers() {
        EDGE.of("VALUE: NUMBER (1 to 5 digits, as far as digits go on) | WORD", () -> {
            good("go 0");
            good("go 00000");
            good("go 99999");
            bad("go 000000", 3, 1);
            bad("go 100000", 3, 1);
            bad("go  123456", 4, 1);
            bad("go 1 + 123456 + fish", 7, 1);
            bad("go " + "9".repeat(397), 3, 1);
            bad("go 12345 6", 9, 0);
            bad("go 12345six", 8, 0);
            bad("go +", 3, 0);
            bad("go -1", 3, 0);
            bad("go 1 if 99999 = 100000", 16, 1);
            holds("99999 - 99998 = 1", true);
            holds("00007 = 7", true);
        });
        EDGE.of("SUM: TERM { (+ or -) TERM }. TERM: VALUE { (* or / or %) VALUE }", () -> {
            holds("5 - 3 - 1 = 1", true);
            holds("5 - 3 + 1 = 3", true);
            holds("2 + 3 * 4 = 14", true);
            holds("2 * 3 + 4 = 10", true);
            holds("20 - 6 / 2 = 17", true);
            holds("100 / 10 / 5 = 2", true);
            holds("2 * 7 % 4 = 2", true);
            holds("7 % 4 * 2 = 6", true);
            holds("9 / 2 * 2 = 8", true);
            holds("1 + 9 % 5 * 2 - 8 / 4 = 7", true);
            bad("go 1+", 5, 0);
            bad("go 1*", 5, 0);
            bad("go 1++1", 5, 0);
            bad("go 1*/1", 5, 0);
            bad("go 1+-1", 5, 0);
            bad("go (1)", 3, 0);
            bad("go 1 # 1", 5, 0);
        });
        EDGE.of("WORDS (small letters, as far as these go on)", () -> {
            bad("go poolx", 3, 0);
            bad("go poo", 3, 0);
            bad("go poolfrom", 3, 0);
            bad("go Pool", 3, 0);
            bad("go pooL", 3, 0);
            bad("go pool1", 7, 0);
            bad("go if", 3, 0);
            bad("go go", 3, 0);
            bad("go not", 3, 0);
            bad("go moon", 3, 0);
            bad("go 1 iff 1=1", 5, 0);
            bad("go 1 if nota=1", 8, 0);
            bad("go 1 if 1=1 andy 1=1", 12, 0);
            bad("go 1 if 1=1 ore 1=1", 12, 0);
            bad("go 1 if 1=1 xor 1=1", 12, 0);
            bad("gone 1", 0, 0);
            bad("goa 1", 0, 0);
            bad("goz 1", 0, 0);
            bad("go poola", 3, 0);
            bad("go poolz", 3, 0);
            bad("go 1 ifz 1=1", 5, 0);
            bad("go 1 if notz 1=1", 8, 0);
            bad("go 1 if 1=1 orz 1=1", 12, 0);
            good("go1if1=1and1=1or1=1;go pool");
            good("go 1if[pool=1]and[pool=1]or not[pool=1]");
        });
        EDGE.of("Blanks (32) stand between as one likes", () -> {
            good("   go   1   +   2   if   [   not   1   <=   2   ]   and   1   =   1   ;   go   3   ");
            good("go 1+2if[not 1<=2]and 1=1;go3");
            bad("go\t1", 2, 0);
            bad("go 1\n", 4, 0);
            bad("go 1\u0000", 4, 0);
            bad("go 1\u00a0", 4, 0);
        });
    }

    private static void rounding() {
        // What goes round to -1487390877350315.
        String negative = "99999*99999*99999*92235";
        String two63 = "65536*65536*65536*32768";
        EDGE.of("/ is towards 0, % its rest, both 0 by 0", () -> {
            holds("7 / 2 = 3", true);
            holds("1 / 2 = 0", true);
            holds("7 % 2 = 1", true);
            holds("7 / 7 = 1", true);
            holds("7 % 7 = 0", true);
            holds("6 / 7 = 0", true);
            holds("6 % 7 = 6", true);
            holds(negative + " < 0", true);
            // Half of it, towards 0, is 743695438675157 below 0.
            holds(negative + "/2 = 0 - 74369*10000*10000*100 - 54386*10000*10 - 75157", true);
            holds(negative + "%2 = 0 - 1", true);
            holds(negative + "%10 = 0 - 5", true);
            holds("7 / 0 = 0", true);
            holds("7 % 0 = 0", true);
            holds("0 / 0 = 0", true);
            holds("0 % 0 = 0", true);
            holds(negative + "/0 = 0", true);
            holds(negative + "%0 = 0", true);
            holds("5 + 7 / 0 * 3 = 5", true);
            holds("7 / with = 0", true);
            holds("7 % with = 0", true);
        });
        EDGE.of("all goes round in 64 bits", () -> {
            holds("65536*65536*65536*65536 = 0", true);
            holds(two63 + " < 0", true);
            holds(two63 + " - 1 > 0", true);
            holds("0 - " + two63 + " = " + two63, true);
            holds(two63 + " + " + two63 + " = 0", true);
            holds(two63 + " - 1 + 1 < 0", true);
            holds("65536*65536*65536*16384 > 0", true);
            holds("65536*65536*65536*16384 + 65536*65536*65536*16384 < 0", true);
            holds("65536*65536 > 65536*65535", true);
            holds(two63 + "/1 = " + two63, true);
            holds(two63 + "%1 = 0", true);
            // A SUM that went round to one below 0 is not above 0.
            goes(SIX, "go " + two63 + " if pool = 1", 1, 0);
            goes(SIX, "go " + two63 + " - 1 if pool = 1", 1, 1);
            goes(SIX, "go 65536*65536 if pool = 1;go 1", 1, 1);
        });
    }

    private static void wordsOfOne() {
        EDGE.of("memory, pool, from (the POOL it is in), size, smell", () -> {
            EelThroat x = Due.with(SIX, "go pool if memory = 5");
            EDGE.is("MEMORY 5", x.ahead(5, 1), 1);
            EDGE.is("MEMORY 4", x.ahead(4, 1), 0);
            goes("river 12 9;person 1;memory 10 1 0 0", "go 1 if pool = 11", 1, 11);
            goes("river 12 9;person 1;memory 11 1 0 0", "go 1 if pool = 10 and from = 11", 1, 10);
            goes("river 12 9;person 1;memory 1 1 0 0", "go 1 if pool = 0 and from = 1", 1, 0);
            goes("river 12 9;person 1;memory 0 1 0 0", "go 1 if pool = 1 and from = 0", 1, 1);
            goes("river 12 9;person 1;memory 0 1 0 0", "go 1 if pool > from", 11, 11);
            for (int size = 1; size <= 9; size++) {
                goes("river 2 9;person 1;memory 0 " + size + " 0 0", "go pool if size = " + size, 1, 1);
                goes("river 2 9;person 1;memory 0 " + size + " 0 0", "go pool if size = " + (size + 1), 1, 0);
            }
            for (int smell = 0; smell <= 7; smell++) {
                goes("river 2 9;person 1;memory 0 1 " + smell + " 0", "go pool if smell = " + smell, 1, 1);
                goes("river 2 9;person 1;memory 0 1 " + smell + " 0", "go pool if smell = " + (smell + 1), 1, 0);
            }
        });
        EDGE.of("with (how many other FREE MEMORIES are in that POOL)", () -> {
            goes(SIX, "go 2 if with = 5 and pool = 0;go 1 if with = 0", 1, 0);
            goes(SIX, "go 2 if with = 4 and pool = 0;go 1 if with = 0", 1, 1);
            goes("river 2 9;person 1;memory 1 1 0 0", "go 2 if with = 0 and pool = 1;go 1", 1, 1);
            goes(SIX, "go 1 if with = 0 and pool = 0", 1, 0);
            goes("river 2 9;person 1" + ";memory 1 1 0 0".repeat(6), "go 1 if with = 0 and pool = 0", 1, 0);
            goes("river 2 9;person 1;memory 0 1 0 0" + ";memory 1 1 0 0".repeat(5), "go pool if with = 5", 1, 1);
            goes("river 2 9;person 1;memory 0 1 0 0", "go pool if with = 0", 1, 1);
            // In the TRAP, and at SEA, they are not FREE: of four below, one is.
            EelThroat x = Due.with("river 2 5;person 9;memory 0 1 0 0;memory 1 1 1 0;memory 1 5 2 0;memory 1 4 3 0;memory 1 1 4 0"
                + ";trap 1 9 1 0;trap 1 9 4 0", "go pool if night = 1 and with = 1");
            x.night();
            x.lift(1);
            EDGE.is("one in a TRAP", x.memory(1, 3), 20);
            EDGE.is("one at SEA", x.memory(2, 3), NONE);
            EDGE.is("one FREE", x.memory(3, 3), 1);
            EDGE.is("one HAD", x.memory(4, 3), 30);
            EDGE.is("with one", x.ahead(0, 1), 1);
        });
        EDGE.of("whose, night", () -> {
            for (int who = 0; who <= 3; who++) {
                String river = "river 2 9;person 1;person 1;person 1;person 1;memory 0 1 0 " + who;
                goes(river, "go pool if whose = " + who, 1, 1);
                goes(river, "go pool if whose = " + (who + 1), 1, 0);
            }
            goes("river 2 9;moon 1;moon 2;person 1;memory 0 1 0 0", "go pool if night = 0", 1, 1);
            goes("river 2 9;moon 1;moon 2;person 1;memory 0 1 0 0", "go pool if night = 99", 99, 0);
            goes("river 2 9;moon 1;moon 2;person 1;memory 0 1 0 0", "go pool if night = 99", 100, 1);
        });
    }

    private static void wordsOfTraps() {
        String four = "river 3 9;person 9;memory 1 1 7 0;memory 0 1 2 0;trap 2 1 7 0;trap 2 1 7 0;trap 2 1 7 0;trap 2 1 7 0";
        EDGE.of("bait (how many empty TRAPS there have its SMELL as BAIT)", () -> {
            goes(four, "go 1 if pool = 2 and bait = 4", 1, 20);
            goes(four, "go 1 if pool = 0 and bait = 0", 1, 0);
            EelThroat x = Due.with("river 2 9;person 9;memory 0 1 7 0;memory 1 1 7 0;memory 0 1 6 0;trap 1 1 7 0;trap 1 1 7 0;trap 1 1 5 0;trap 0 1 3 0",
                "go 1 if pool = 1 and bait = 2 and memory = 0 and night = 0;go 1 if pool = 1 and memory = 2 and bait = 0 and night = 2");
            x.sink(0, 0, 0);
            EDGE.is("one there has it", x.ahead(0, 1), 0);
            x.undo();
            EDGE.is("two have it", x.ahead(0, 1), 20);
            x = Due.with("river 2 9;person 9;memory 0 1 7 0;memory 1 1 7 0;trap 1 1 7 0;trap 1 1 7 0",
                "go 1 if pool = 1 and bait = 1 and memory = 0");
            x.night();
            EDGE.is("one is not empty", x.trap(0, 4), 1);
            EDGE.is("one is left", x.ahead(0, 1), 21);
            x.lift(0);
            EDGE.is("both are empty", x.ahead(0, 1), 0);
        });
        EDGE.of("traps (how many TRAPS are in that POOL, empty or not)", () -> {
            goes(four, "go 1 if traps = 4", 1, 20);
            goes(four, "go 1 if traps = 0 and pool = 0", 1, 0);
            goes("river 5 9;person 1;memory 0 1 7 0;trap 1 1 0 0;trap 2 1 0 0;trap 3 1 0 0;trap 4 1 0 0", "go 1 if pool > from and traps = 1", 4, 4);
            EelThroat x = Due.with("river 2 9;person 9;memory 0 1 7 0;memory 1 1 5 0;trap 1 1 5 0;trap 1 1 4 0;trap 0 1 4 0",
                "go 2 if traps = 2 and pool = 1 and night = 1;go 1 if pool = from");
            x.night();
            EDGE.is("one is not empty", x.trap(0, 4), 1);
            EDGE.is("it counts", x.ahead(0, 1), 1);
            x.sink(1, 0, 4);
            EDGE.is("one is there", x.ahead(0, 1), 0);
        });
    }

    private static void wordsOfNights() {
        StringBuilder twelve = new StringBuilder("river 12 9");
        for (int i = 0; i < 12; i++) {
            twelve.append(";moon ").append(i * 7 % 10);
        }
        twelve.append(";person 1;memory 0 1 0 0");
        EDGE.of("light (of this NIGHT), next (LIGHT of the NIGHT behind it)", () -> {
            for (int night = 0; night <= 30; night++) {
                int light = night % 12 * 7 % 10;
                int next = (night + 1) % 12 * 7 % 10;
                String river = twelve.toString();
                goes(river, "go pool if night = " + night + " and light = " + light + " and next = " + next, night + 1, 1);
                goes(river, "go pool if night = " + night + " and light = " + (light + 1), night + 1, 0);
                goes(river, "go pool if night = " + night + " and next = " + (next + 1), night + 1, 0);
            }
            goes("river 2 9;moon 9;person 1;memory 0 1 0 0", "go pool if light = 9 and next = 9", 1, 1);
            // All POOLS alike: up, in that NIGHT alone.
            String three = "river 2 9;moon 0;moon 0;moon 7;person 1;memory 1 1 0 0";
            goes(three, "go 1 if light = 7", 2, 1);
            goes(three, "go 1 if light = 7", 3, 0);
            goes(three, "go 1 if next = 7", 1, 1);
            goes(three, "go 1 if next = 7", 2, 0);
            goes(three, "go 1 if night = 50", 50, 1);
            goes(three, "go 1 if night = 50", 51, 0);
            goes("river 2 9;moon 3;moon 8;person 1;memory 0 1 0 0", "go pool if light = 8 and next = 3", 1, 0);
            goes("river 2 9;moon 3;moon 8;person 1;memory 0 1 0 0", "go pool if light = 8 and next = 3", 2, 1);
        });
    }

    private static void depth() {
        EDGE.of("[ and not lie within one another 10 deep at most", () -> {
            good("go 1 if " + "[".repeat(10) + "1=1" + "]".repeat(10));
            good("go 1 if " + "not ".repeat(10) + "1=1");
            good("go 1 if " + "not[".repeat(5) + "1=1" + "]".repeat(5));
            good("go 1 if " + "[not ".repeat(5) + "1=1" + "]".repeat(5));
            goes(SIX, "go pool if " + "[".repeat(10) + "1=1" + "]".repeat(10), 1, 1);
            goes(SIX, "go pool if " + "not ".repeat(10) + "1=1", 1, 1);
            goes(SIX, "go pool if " + "not ".repeat(9) + "1=1", 1, 0);
            goes(SIX, "go pool if " + "not[".repeat(5) + "1=1" + "]".repeat(5), 1, 0);
            goes(SIX, "go pool if " + "[1=2 or ".repeat(10) + "1=1" + "]".repeat(10), 1, 1);
            goes(SIX, "go pool if " + "[1=1 and 1=2 or ".repeat(9) + "1=1" + "]".repeat(9), 1, 1);
            // Beside one another they are not within one another.
            good("go 1 if " + "[1=1]and".repeat(14) + "[1=1]");
            good("go 1 if " + "not 1=1 or ".repeat(14) + "not 1=1");
            good("go 1 if " + "[".repeat(10) + "1=1" + "]".repeat(10) + "and" + "[".repeat(10) + "1=1" + "]".repeat(10));
            good("go 1 if " + "not ".repeat(10) + "1=1 and " + "not ".repeat(10) + "1=1");
            good("go 1 if " + "[".repeat(9) + "not 1=1 and not 1=1 or[1=1]" + "]".repeat(9));
            good("go 1 if " + "[".repeat(10) + "1=1" + "]".repeat(10) + ";go 1 if " + "[".repeat(10) + "1=1" + "]".repeat(10));
        });
        EDGE.of("2 too deep (at the sign that opens, or the word not)", () -> {
            bad("go 1 if " + "[".repeat(11) + "1=1" + "]".repeat(11), 18, 2);
            bad("go 1 if " + "[".repeat(10) + "  [1=1", 20, 2);
            bad("go 1 if " + "[".repeat(10) + " not 1=1", 19, 2);
            bad("go 1 if " + "not ".repeat(11) + "1=1", 48, 2);
            bad("go 1 if " + "not ".repeat(10) + "[1=1]", 48, 2);
            bad("go 1 if " + "not[".repeat(5) + "[1=1]", 28, 2);
            bad("go 1 if " + "[".repeat(392), 18, 2);
            bad("go 1 if " + "[".repeat(10) + "1=1 and [1=1]", 26, 2);
            bad("go 1 if " + "[".repeat(10) + "1=1 or not 1=1", 25, 2);
            bad("go 1 if " + "[".repeat(10) + "nota=1", 18, 0);
            bad("go 1 if " + "[".repeat(10), 18, 0);
        });
    }

    private static void units() {
        EDGE.of("at most 60 VALUES (of SUMS) and FACTS made of a SIGN, together", () -> {
            good("go 1" + "+1".repeat(59));
            good("go 1" + "*1".repeat(59));
            good("go pool" + "+pool".repeat(59));
            good("go 1" + "+1".repeat(56) + " if 1=1");
            good("go 1" + "+1".repeat(53) + " if [1=1 or not 1=1]");
            good("go 1 if 1=1;".repeat(11) + "go 1" + "+1".repeat(12) + " if 1=1");
            goes(SIX, "go pool*1 if 1" + "+1".repeat(55) + "=56", 1, 1);
            goes(SIX, "go pool*1 if 1" + "+1".repeat(55) + "=55", 1, 0);
            goes(SIX, "go 1" + "+1".repeat(58) + "*pool", 1, 1);
        });
        EDGE.of("3 one VALUE or FACT too many (at its first byte; of a FACT at its SIGN)", () -> {
            bad("go 1" + "+1".repeat(60), 123, 3);
            bad("go 1" + "+1".repeat(59) + "+  12345", 125, 3);
            bad("go 1" + "+1".repeat(59) + "*pool", 123, 3);
            bad("go 1" + "+1".repeat(59) + " if pool=1", 126, 3);
            bad("go 1" + "+1".repeat(59) + " if [pool", 127, 3);
            bad("go 1" + "+1".repeat(59) + " if not pool", 130, 3);
            bad("go 1" + "+1".repeat(58) + " if [1=", 126, 3);
            bad("go 1" + "+1".repeat(57) + " if [1=1", 125, 3);
            bad("go 1" + "+1".repeat(58) + " if 1  <=  1", 127, 3);
            bad("go 1" + "+1".repeat(58) + " if 1>", 125, 3);
            bad("go 1" + "+1".repeat(57) + " if 1=pool", 124, 3);
            bad("go 1" + "+1".repeat(56) + " if 1=1 and 1=1", 128, 3);
            bad("go 1" + "+1".repeat(56) + " if 1=1;go 1", 127, 3);
            bad("go 1 if 1=1;".repeat(11) + "go 1" + "+1".repeat(13) + " if 1=1", 132 + 4 + 26 + 6, 3);
        });
    }

    private static void faults() {
        EDGE.of("FAULTS, the first along the text", () -> {
            bad("go fish + 123456", 3, 0);
            bad("go 123456 + fish", 3, 1);
            bad("go 1" + "+1".repeat(60) + " if " + "[".repeat(11), 123, 3);
            bad("go 1 if " + "[".repeat(11) + "1" + "+1".repeat(60), 18, 2);
            bad("go 1" + ";go 1".repeat(12) + "23456", 60, 4);
        });
        EDGE.of("Of one place the least", () -> {
            bad("go 1" + "+1".repeat(59) + "+fish", 123, 0);
            bad("go 1" + "+1".repeat(59) + "+", 123, 0);
            bad("go 1" + "+1".repeat(59) + "+123456", 123, 1);
            bad("go 1" + "+1".repeat(58) + " if 1!1", 125, 0);
            bad("go 1" + "+1".repeat(58) + " if 1", 125, 0);
            bad("go 1" + ";go 1".repeat(11) + ";gone", 60, 0);
            bad("go 1" + ";go 1".repeat(11) + ";", 60, 0);
        });
    }

    private static EelThroat six(int tape) {
        EelThroat x = Edge.rich();
        for (int i = 2; i < 6; i++) {
            Due.rule(x, "go " + i);
        }
        Due.tell(x, "river 3 4;person 5;memory 2 1 0 0".substring(0, tape));
        return x;
    }

    private static void promiseRule() {
        EDGE.of("NONE, and nothing happens: there are 6", () -> {
            EDGE.is("the sixth", six(0).count(6), 6);
            EDGE.still("a seventh, on an empty TAPE", () -> six(0), x -> x.rule(), NONE);
            EDGE.still("a seventh, with a FAULT", () -> six(33), x -> x.rule(), NONE);
            EelThroat x = six(0);
            Due.tell(x, "go 1");
            EDGE.is("a seventh, without a FAULT", x.rule(), NONE);
            EDGE.is("the TAPE stays", x.count(14), 4);
            EDGE.is("the RULES stay", x.count(6), 6);
        });
        EDGE.of("The TAPE, which is empty then, is a RULE: its number; -2 - its FAULT", () -> {
            EelThroat x = Edge.rich();
            EDGE.is("a FAULT", x.rule(), -3);
            EDGE.same("a FAULT", x, Edge.richWithoutTape());
            x = Edge.rich();
            x.rule();
            EDGE.is("no TAPE", x.count(14), 0);
            EDGE.is("an empty one", x.rule(), -3);
            Due.rule(x, "go 9 if 1 = 2;go 9;go 9 if fish");
            EDGE.is("the next number", Due.rule(x, "go 7"), 2);
            EDGE.is("no TAPE", x.count(14), 0);
            EDGE.is("three RULES", x.count(6), 3);
            EDGE.is("not IN FORCE by that", x.count(7), 1);
            EDGE.is("the first of a new one", Due.rule(new EelThroat(), "go 7"), 0);
            // What a FAULT was read up to is not part of the RULE behind it, and does not count for it.
            x = Due.with(SIX);
            Due.rule(x, "go 1 if pool = 1;go 9;go 1" + "+1".repeat(50) + " if fish");
            Due.rule(x, "go 1" + "+1".repeat(60));
            EDGE.is("sixty", Due.rule(x, "go 1*pool-1" + "+1".repeat(53) + "-53 if 1=1"), 0);
            x.force(0);
            EDGE.is("by what stands in it", x.ahead(0, 1), 0);
            Due.rule(x, "go 1;go 9 if fish");
            EDGE.is("another one", Due.rule(x, "go 1 if pool = 1"), 1);
            x.force(1);
            EDGE.is("by what stands in it", x.ahead(0, 1), 1);
        });
    }

    private static void promiseForce() {
        EDGE.of("A RULE is IN FORCE (NONE: none): which was; -2, and nothing happens, if there is none such", () -> {
            for (int rule : Edge.outside(NONE, 1)) {
                EDGE.refused("force(" + rule + ")", x -> x.force(rule), -2);
            }
            for (int rule : Edge.outside(NONE, 5)) {
                EDGE.still("force(" + rule + ") of six", () -> six(33), x -> x.force(rule), -2);
            }
            for (int rule : Edge.outside(NONE, NONE)) {
                EDGE.still("force(" + rule + ") of none", EelThroat::new, x -> x.force(rule), -2);
            }
            EDGE.still("the one that is", Edge::rich, x -> x.force(1), 1);
            EDGE.still("none of none", EelThroat::new, x -> x.force(NONE), NONE);
            EelThroat x = six(0);
            EDGE.is("the last", x.force(5), 1);
            EDGE.is("the first", x.force(0), 5);
            EDGE.is("none", x.force(NONE), 0);
            EDGE.is("again", x.force(0), NONE);
            EDGE.is("it is IN FORCE", x.count(7), 0);
            EDGE.is("no ACT", x.count(12), 4);
        });
    }
}
