/** The languages of promises 4 and 5: each text with the place and the kind of its first FAULT. */
public final class FaultTest {
    private static final Due DUE = new Due();
    private static final String FULL_RIVER = "river 12 9" + ";moon 9".repeat(12) + ";person 9".repeat(4)
        + ";memory 11 9 7 3".repeat(6) + ";trap 11 9 7 3".repeat(4);

    public static void main(String[] args) {
        riverWords();
        riverNumbers();
        riverCounts();
        ruleWords();
        ruleNumbers();
        ruleDepth();
        ruleUnits();
        ruleClauses();
        goodRules();
        tapeAndFaults();
        DUE.close("FaultTest");
    }

    private static void badRiver(String text, int place, int kind) {
        DUE.is("river '" + text + "'", Due.river(new EelThroat(), text), -2 - (1 + 8 * place + kind));
    }

    private static void goodRiver(String text, int memories) {
        DUE.is("river '" + text + "'", Due.river(new EelThroat(), text), memories);
    }

    private static void badRule(String text, int place, int kind) {
        DUE.is("rule '" + text + "'", Due.rule(new EelThroat(), text), -2 - (1 + 8 * place + kind));
    }

    private static void goodRule(String text) {
        DUE.is("rule '" + text + "'", Due.rule(new EelThroat(), text), 0);
    }

    private static void riverWords() {
        badRiver("", 0, 0);
        badRiver("   ", 3, 0);
        badRiver("river", 5, 0);
        badRiver("river ", 6, 0);
        badRiver("river 2", 7, 0);
        badRiver("rivers 2 1", 0, 0);
        badRiver("  rive 2 1", 2, 0);
        badRiver("River 2 1", 0, 0);
        badRiver("2 river", 0, 0);
        badRiver("river x 1", 6, 0);
        badRiver("river -2 1", 6, 0);
        badRiver("river 2x1", 7, 0);
        badRiver("river 2 1;", 10, 0);
        badRiver("river 2 1;  ", 12, 0);
        badRiver("river 2 1;;", 10, 0);
        badRiver(";river 2 1", 0, 0);
        badRiver("river 2 1 1", 10, 0);
        badRiver("river 2 1 moon 1", 10, 0);
        badRiver("river 2 1\u0000", 9, 0);
        badRiver("river 2 1\u00ff", 9, 0);
        badRiver("river\t2 1", 5, 0);
        badRiver("river 2 1;fish 1", 10, 0);
        badRiver("river 2 1;moon", 14, 0);
        badRiver("river 2 1;person 1;memory 0 1 0", 31, 0);
        badRiver("river 2 1;person 1;trap 0 1 0;", 29, 0);
        goodRiver("river 2 1", 0);
        goodRiver("  river2 1  ", 0);
        goodRiver("river 2 1;person 1;memory0 1 0 0 ; trap 0 1 0 0", 1);
        goodRiver(FULL_RIVER, 6);
    }

    private static void riverNumbers() {
        badRiver("river 1 1", 6, 1);
        badRiver("river 13 1", 6, 1);
        badRiver("river 2 0", 8, 1);
        badRiver("river 2 10", 8, 1);
        badRiver("river 000002 1", 6, 1);
        badRiver("river 99999999999 1", 6, 1);
        badRiver("river 21", 6, 1);
        goodRiver("river 00002 00001", 0);
        goodRiver("river 12 9", 0);
        badRiver("river 2 1;moon 10", 15, 1);
        badRiver("river 2 1;person 0", 17, 1);
        badRiver("river 2 1;person 10", 17, 1);
        badRiver("river 2 1;memory 0 1 0 0", 23, 1);
        badRiver("river 2 1;trap 0 1 0 0", 21, 1);
        badRiver("river 2 1;person 1;memory 2 1 0 0", 26, 1);
        badRiver("river 2 1;person 1;memory 0 0 0 0", 28, 1);
        badRiver("river 2 1;person 1;memory 0 10 0 0", 28, 1);
        badRiver("river 2 1;person 1;memory 0 1 8 0", 30, 1);
        badRiver("river 2 1;person 1;memory 0 1 0 1", 32, 1);
        badRiver("river 2 1;person 1;memory 0 1 0 1;person 1", 32, 1);
        badRiver("river 2 1;person 1;trap 2 1 0 0", 24, 1);
        badRiver("river 2 1;person 1;trap 0 0 0 0", 26, 1);
        badRiver("river 2 1;person 1;trap 0 10 0 0", 26, 1);
        badRiver("river 2 1;person 1;trap 0 1 8 0", 28, 1);
        badRiver("river 2 1;person 1;trap 0 1 0 1", 30, 1);
    }

    private static void riverCounts() {
        badRiver("moon 0", 0, 4);
        badRiver(" person 0", 1, 4);
        badRiver("moon", 0, 4);
        badRiver("river 2 1;river 2 1", 10, 4);
        badRiver("river 2 1; river", 11, 4);
        badRiver("river 2 1" + ";moon 0".repeat(13), 10 + 12 * 7, 4);
        badRiver("river 2 1" + ";person 1".repeat(5), 10 + 4 * 9, 4);
        badRiver("river 2 1;person 1" + ";memory 0 1 0 0".repeat(7), 19 + 6 * 15, 4);
        badRiver("river 2 1;person 1" + ";trap 0 1 0 0".repeat(5), 19 + 4 * 13, 4);
        badRiver(FULL_RIVER + ";moon 99", FULL_RIVER.length() + 1, 4);
    }

    private static void ruleWords() {
        badRule("", 0, 0);
        badRule("go", 2, 0);
        badRule("gos 1", 0, 0);
        badRule("goz 1", 0, 0);
        badRule("goa 1", 0, 0);
        badRule("Go 1", 0, 0);
        badRule("go x", 3, 0);
        badRule("go pools", 3, 0);
        badRule("go -1", 3, 0);
        badRule("go (1)", 3, 0);
        badRule("go [1]", 3, 0);
        badRule("go 1 2", 5, 0);
        badRule("go 1;", 5, 0);
        badRule("go 1; ", 6, 0);
        badRule("go 1 go 2", 5, 0);
        badRule("go 5 %", 6, 0);
        badRule("go 5 + * 2", 7, 0);
        badRule("go 1 if", 7, 0);
        badRule("go 1 iff 1 = 1", 5, 0);
        badRule("go 1 if 1", 9, 0);
        badRule("go 1 if 1 = ", 12, 0);
        badRule("go 1 if 1 == 1", 11, 0);
        badRule("go 1 if 1 < = 1", 12, 0);
        badRule("go 1 if 1 => 1", 11, 0);
        badRule("go 1 if 1 <> 1", 11, 0);
        badRule("go 1 if 1 ! 1", 10, 0);
        badRule("go 1 if pool = 1]", 16, 0);
        badRule("go 1 if [pool = 1", 17, 0);
        badRule("go 1 if [pool = 1;go 1", 17, 0);
        badRule("go 1 if []", 9, 0);
        badRule("go 1 if 1 = 1 and", 17, 0);
        badRule("go 1 if 1 = 1 andpool = 1", 14, 0);
        badRule("go 1 if 1 = 1 or or 1 = 1", 17, 0);
        badRule("go 1 if not", 11, 0);
        badRule("go 1 if nota = 1", 8, 0);
        badRule("go 1 if 1 not = 1", 10, 0);
        badRule("go 1 if 1 = 1 if 1 = 1", 14, 0);
        badRule("go 1 if [1] = 1", 10, 0);
        badRule("go 1 if [1 = 1] = 1", 16, 0);
        badRule("go 1 if if", 8, 0);
        badRule("go 9 - pool\u0000", 11, 0);
    }

    private static void ruleNumbers() {
        badRule("go 123456", 3, 1);
        badRule("go 1 + 000001", 7, 1);
        badRule("go 1 if 1 = 100000", 12, 1);
        goodRule("go 99999");
        goodRule("go 00000");
        badRule("go 12345x", 8, 0);
    }

    private static void ruleDepth() {
        goodRule("go 1 if " + "[".repeat(10) + "1=1" + "]".repeat(10));
        badRule("go 1 if " + "[".repeat(11) + "1=1" + "]".repeat(11), 18, 2);
        goodRule("go 1 if " + "not ".repeat(10) + "1=1");
        badRule("go 1 if " + "not ".repeat(11) + "1=1", 48, 2);
        goodRule("go 1 if " + "not[".repeat(5) + "1=1" + "]".repeat(5));
        badRule("go 1 if " + "not[".repeat(5) + " not 1=1" + "]".repeat(5), 29, 2);
        badRule("go 1 if not [" + "[".repeat(8) + "[1=1] and [1=1", 13 + 8, 2);
        badRule("go 1 if not [" + "[".repeat(7) + "[1=1] and [1=1", 13 + 7 + 14, 0);
        goodRule("go 1 if " + "[1=1]and ".repeat(11) + "not 1=1");
        goodRule("go 1 if not 1=1 and not 1=1 and not 1=1 or not[1=1] or " + "[".repeat(10) + "1=1" + "]".repeat(10));
    }

    private static void ruleUnits() {
        goodRule("go 1" + "+1".repeat(59));
        badRule("go 1" + "+1".repeat(60), 3 + 120, 3);
        badRule("go 1" + "+1".repeat(59) + "+ pool", 3 + 121, 3);
        badRule("go 1" + "+1".repeat(59) + "+1234567", 3 + 120, 1);
        badRule("go 1" + "+1".repeat(59) + "+fish", 3 + 120, 0);
        // 57 VALUES, and a FACT's two with its SIGN: 60.
        goodRule("go 1" + "+1".repeat(56) + " if 1=1");
        badRule("go 1" + "+1".repeat(57) + " if 1=1", 4 + 114 + 6, 3);
        badRule("go 1" + "+1".repeat(58) + " if 1<=1", 4 + 116 + 5, 3);
        badRule("go 1" + "+1".repeat(58) + " if 1!1", 4 + 116 + 5, 0);
        // They are counted through all CLAUSES together.
        goodRule("go 1" + "+1".repeat(29) + ";go 1" + "+1".repeat(29));
        badRule("go 1" + "+1".repeat(29) + ";go 1" + "+1".repeat(30), 4 + 58 + 5 + 60 - 1, 3);
    }

    private static void ruleClauses() {
        goodRule("go 1" + ";go 1".repeat(11));
        badRule("go 1" + ";go 1".repeat(12), 5 * 12, 4);
        badRule("go 1" + ";go 1".repeat(11) + "; go", 5 * 12 + 1, 4);
        badRule("go 1" + ";go 1".repeat(11) + ";on", 5 * 12, 0);
        badRule("go 1" + ";go 1".repeat(11) + ";", 5 * 12, 0);
    }

    private static void goodRules() {
        goodRule(" go1 ");
        goodRule("go pool*2/size%3-from+smell");
        goodRule("go memory+pool+from+size+smell+bait+traps+with+light+next+whose+night");
        goodRule("go 1 if 1=1and 2>=2or 3<=3;go 2 if not[ 1 < 2 or 2 > 1 ] and pool=0");
    }

    private static void tapeAndFaults() {
        EelThroat x = Due.with("river 3 4;person 2;memory 1 2 3 0");
        x.note(0, 0, 1);
        x.night();
        x.seed(5);
        DUE.is("a FAULT", Due.river(x, "river 2"), -2 - 57);
        DUE.is("the RIVER stays", x.count(0), 3);
        DUE.is("NIGHT stays", x.count(8), 1);
        DUE.is("NOTES stay", x.count(11), 1);
        DUE.is("ACTS stay", x.count(12), 1);
        DUE.is("the MEMORY stays", x.memory(0, 3), 2);
        DUE.is("no TAPE", x.count(14), 0);
        DUE.is("a FAULT of a RULE", Due.rule(x, "go"), -2 - 17);
        DUE.is("no RULE", x.count(6), 0);
        DUE.is("no TAPE", x.count(14), 0);
        DUE.is("a RULE", Due.rule(x, "go 1"), 0);
        DUE.is("no TAPE", x.count(14), 0);
    }
}
