/** Eel traps for the memory. README.md says how to use it; the promises stand in the project's document. */
public final class EelThroat {
    public static final int NONE = -1;

    /** The answer of many calls whose NONE is taken by another meaning. */
    private static final int NOT_SO = -2;
    private static final int NOT_ASKED = -3;

    private static final int TAPE_MOST = 400;
    private static final int FED_AT_ONCE = 20;
    private static final int RULES_MOST = 6;
    private static final int IMAGES_MOST = 4;
    private static final int ACTS_MOST = 20;
    private static final int NOTES_MOST = 10;

    private static final int POOLS_MOST = 12;
    private static final int MOONS_MOST = 12;
    private static final int PEOPLE_MOST = 4;
    private static final int MEMORIES_MOST = 6;
    private static final int TRAPS_MOST = 4;
    private static final int BAITS = 8;
    private static final int THROAT_MOST = 9;

    /** A MEMORY's place is one number: its POOL, or one of these and a TRAP or a PERSON, or NONE at SEA. */
    private static final int IN_TRAP = 20;
    private static final int HAD = 30;

    private static final int NIGHT_MOST = 999;
    private static final int NIGHTS_AHEAD = 100;
    private static final int NIGHTS_TRIED = 40;
    private static final int NIGHTS_RESTED = 20;
    private static final int NIGHTS_NOTED = 60;
    private static final int NIGHTS_DRAWN = 60;
    private static final int TIMES_DRAWN = 10;
    private static final int PENCE_MOST = 9999;

    private final Tape tape = new Tape();
    private final Rule[] rules = new Rule[RULES_MOST];
    private int ruleCount;
    private final Scene now = new Scene();
    private final Scene[] images = new Scene[IMAGES_MOST];
    /** A RIVER is read here first, so that a FAULT leaves the one there was. */
    private final River draft = new River();
    private final Acts acts = new Acts();
    private final Stream stream = new Stream();
    private final Asking asking = new Asking();
    private final Guessing guessing = new Guessing();

    public EelThroat() {
        for (int i = 0; i < RULES_MOST; i++) {
            rules[i] = new Rule();
        }
        for (int i = 0; i < IMAGES_MOST; i++) {
            images[i] = new Scene();
        }
    }

    public int feed(int a, int b, int c, int d, int e) {
        if (tape.size + FED_AT_ONCE > TAPE_MOST) {
            return NONE;
        }
        tape.put(a);
        tape.put(b);
        tape.put(c);
        tape.put(d);
        tape.put(e);
        return tape.size;
    }

    public int end(int n) {
        if (n < 0 || n > tape.size) {
            return NONE;
        }
        tape.size = n;
        return n;
    }

    public int river() {
        boolean good = draft.read(tape);
        tape.size = 0;
        if (!good) {
            return -2 - tape.flaw;
        }
        now.river.copy(draft);
        now.water.begin(now.river);
        now.notes.size = 0;
        acts.size = 0;
        return now.river.memories;
    }

    public int rule() {
        if (ruleCount >= RULES_MOST) {
            return NONE;
        }
        // The row behind the last RULE is nobody's yet: a FAULT may leave anything in it.
        boolean good = rules[ruleCount].read(tape);
        tape.size = 0;
        if (!good) {
            return -2 - tape.flaw;
        }
        ruleCount++;
        return ruleCount - 1;
    }

    public int force(int rule) {
        if (rule < NONE || rule >= ruleCount) {
            return NOT_SO;
        }
        int was = now.inForce;
        now.inForce = rule;
        return was;
    }

    public int memory(int memory, int what) {
        if (!isMemory(memory)) {
            return NOT_SO;
        }
        switch (what) {
            case 0: return now.river.size[memory];
            case 1: return now.river.smell[memory];
            case 2: return now.river.whose[memory];
            case 3: return now.water.place[memory];
            default: return NOT_SO;
        }
    }

    public int trap(int trap, int what) {
        if (!isTrap(trap)) {
            return NOT_SO;
        }
        switch (what) {
            case 0: return now.water.sunk[trap];
            case 1: return now.river.throat[trap];
            case 2: return now.water.bait[trap];
            case 3: return now.river.keeper[trap];
            case 4: return now.water.inside[trap];
            default: return NOT_SO;
        }
    }

    public int person(int person) {
        return isPerson(person) ? now.bitsAt(HAD + person) : NONE;
    }

    public int moon(int night) {
        return within(night, 0, now.river.round() - 1) ? now.river.lightOf(night) : NONE;
    }

    public int night() {
        if (!now.river.told || now.water.night >= NIGHT_MOST) {
            return NONE;
        }
        acts.keep(now.water);
        return stream.step(now.river, now.water, ruling(), now.river.lightOf(now.water.night));
    }

    public int lift(int trap) {
        if (!isTrap(trap)) {
            return NONE;
        }
        int memory = now.water.inside[trap];
        int keeper = now.river.keeper[trap];
        if (!isMemory(memory) || !isPerson(keeper) || now.river.size[memory] > now.river.strong[keeper]) {
            return NONE;
        }
        acts.keep(now.water);
        now.water.place[memory] = HAD + keeper;
        now.water.inside[trap] = NONE;
        return memory;
    }

    public int sink(int trap, int pool, int bait) {
        if (!isEmptyTrap(trap) || !isPool(pool) || !within(bait, 0, BAITS - 1)) {
            return NONE;
        }
        int wasIn = now.water.sunk[trap];
        int had = now.water.bait[trap];
        if (wasIn == pool && had == bait) {
            return NONE;
        }
        acts.keep(now.water);
        now.water.sunk[trap] = pool;
        now.water.bait[trap] = bait;
        return 8 * wasIn + had;
    }

    public int free(int memory, int pool) {
        if (!isHad(memory) || !isPool(pool)) {
            return NONE;
        }
        acts.keep(now.water);
        int who = now.water.place[memory] - HAD;
        now.water.place[memory] = pool;
        return who;
    }

    public int give(int memory, int person) {
        if (!isHad(memory) || !isPerson(person) || now.water.place[memory] == HAD + person) {
            return NONE;
        }
        acts.keep(now.water);
        int who = now.water.place[memory] - HAD;
        now.water.place[memory] = HAD + person;
        return who;
    }

    public int undo() {
        return acts.takeBack(now.water);
    }

    public int ahead(int memory, int n) {
        if (!isMemory(memory) || !within(n, 0, NIGHTS_AHEAD)) {
            return NOT_SO;
        }
        return asking.after(now, ruling(), n).place[memory];
    }

    public int caught(int memory, int what) {
        if (!isFree(memory) || !within(what, 0, 1)) {
            return NONE;
        }
        return asking.firstCatch(now, ruling(), memory, what);
    }

    public int atSea(int n) {
        if (!now.river.told || !within(n, 0, NIGHTS_AHEAD)) {
            return NONE;
        }
        return asking.after(now, ruling(), n).bitsAt(NONE, now.river.memories);
    }

    public int full() {
        return now.river.told ? asking.firstFull(now, ruling()) : NONE;
    }

    public int bestSink(int trap, int n, int what) {
        if (!isEmptyTrap(trap) || !within(n, 1, NIGHTS_TRIED) || !within(what, 0, 2)) {
            return NOT_SO;
        }
        return asking.bestPlace(now, ruling(), trap, n, what);
    }

    public int lay(int memory, int n, int pool, int what) {
        if (!isFree(memory) || !within(n, 1, NIGHTS_TRIED) || !isPool(pool) || !within(what, 0, 1)) {
            return NONE;
        }
        int pools = asking.poolsBefore(now, ruling(), memory, n, pool);
        return what == 0 ? Integer.bitCount(pools) : pools;
    }

    public int throats(int trap, int n) {
        if (!isEmptyTrap(trap) || !within(n, 1, NIGHTS_TRIED)) {
            return NONE;
        }
        return asking.leastThroat(now, ruling(), trap, n);
    }

    public int astray() {
        return now.river.told ? Hands.strayed(now) : NONE;
    }

    public int rings(int what) {
        if (!now.river.told || !within(what, 0, 1)) {
            return NONE;
        }
        return Hands.ringed(now, what);
    }

    public int right(int what) {
        if (!now.river.told || !within(what, 0, 2)) {
            return NONE;
        }
        int strayed = Hands.strayed(now);
        // Each MEMORY astray needs one GIVE of its own, and one is enough.
        if (what == 0) {
            return Integer.bitCount(strayed);
        }
        for (int m = 0; m < now.river.memories; m++) {
            if ((strayed >> m & 1) != 0) {
                return what == 1 ? m : now.river.whose[m];
            }
        }
        return NOT_SO;
    }

    public int of(int memory) {
        return isMemory(memory) ? guessing.owners(now, ruling(), memory) : NONE;
    }

    public int rests(int one, int other, int n, int what) {
        if (one == other || !isEmptyTrap(one) || !isEmptyTrap(other)) {
            return NONE;
        }
        if (!within(n, 1, NIGHTS_RESTED) || !within(what, 0, 2)) {
            return NONE;
        }
        return asking.steadyBaits(now, ruling(), one, other, n, what);
    }

    public int cycle(int what) {
        if (!now.river.told || !within(what, 0, 1)) {
            return NONE;
        }
        return asking.firstRound(now, ruling(), what);
    }

    public int pence(int much, int person) {
        if (!isPerson(person) || !within(much, 0, PENCE_MOST)) {
            return NONE;
        }
        return Hands.share(now, much, person);
    }

    public int note(int n, int memory, int pool) {
        if (n == NONE) {
            now.notes.size = 0;
            return 0;
        }
        if (!within(n, 0, NIGHTS_NOTED) || !isMemory(memory) || (pool != NONE && !isPool(pool))) {
            return NOT_SO;
        }
        return now.notes.add(n, memory, pool) ? now.notes.size : NOT_SO;
    }

    public int ruled(int what) {
        if (!now.river.told || !within(what, 0, 1)) {
            return NOT_ASKED;
        }
        int many = guessing.sieve(now, rules, ruleCount, 0);
        if (what == 0) {
            return many;
        }
        return many == 0 ? NOT_SO : guessing.firstFitting();
    }

    public int look(int n, int what) {
        if (!now.river.told || !within(n, 0, NIGHTS_NOTED) || !within(what, 0, 1)) {
            return NONE;
        }
        int many = guessing.sieve(now, rules, ruleCount, n);
        if (many == 0 || now.river.memories == 0) {
            return NOT_SO;
        }
        return guessing.bestParting(many, now.river.memories, what);
    }

    public int seed(int x) {
        if (x < 0) {
            return NONE;
        }
        int was = now.x;
        now.x = x;
        return was;
    }

    public int moons(int m, int n, int p, int what) {
        if (!now.river.told || !within(m, 1, TIMES_DRAWN) || !within(n, 1, NIGHTS_DRAWN)) {
            return NONE;
        }
        if (!within(p, 0, 100) || !within(what, 0, 1)) {
            return NONE;
        }
        return asking.drawnNights(now, ruling(), m, n, p, what);
    }

    public int count(int what) {
        switch (what) {
            case 0: return now.river.pools;
            case 1: return now.river.big;
            case 2: return now.river.round();
            case 3: return now.river.people;
            case 4: return now.river.memories;
            case 5: return now.river.traps;
            case 6: return ruleCount;
            case 7: return now.inForce;
            case 8: return now.water.night;
            case 9: return now.freeBits();
            case 10: return now.bitsAt(NONE);
            case 11: return now.notes.size;
            case 12: return acts.size;
            case 13: return now.x;
            case 14: return tape.size;
            default: return NONE;
        }
    }

    public int image(int k) {
        if (!within(k, 0, IMAGES_MOST - 1)) {
            return NONE;
        }
        images[k].copy(now);
        images[k].made = true;
        return now.water.night;
    }

    public int back(int k) {
        if (!within(k, 0, IMAGES_MOST - 1) || !images[k].made) {
            return NONE;
        }
        now.copy(images[k]);
        acts.size = 0;
        return now.water.night;
    }

    private static boolean within(int number, int least, int most) {
        return number >= least && number <= most;
    }

    private static boolean isFreePlace(int place) {
        return within(place, 0, POOLS_MOST - 1);
    }

    private boolean isMemory(int memory) {
        return within(memory, 0, now.river.memories - 1);
    }

    private boolean isTrap(int trap) {
        return within(trap, 0, now.river.traps - 1);
    }

    private boolean isPerson(int person) {
        return within(person, 0, now.river.people - 1);
    }

    private boolean isPool(int pool) {
        return within(pool, 0, now.river.pools - 1);
    }

    private boolean isEmptyTrap(int trap) {
        return isTrap(trap) && now.water.inside[trap] == NONE;
    }

    private boolean isFree(int memory) {
        return isMemory(memory) && isFreePlace(now.water.place[memory]);
    }

    private boolean isHad(int memory) {
        return isMemory(memory) && now.water.place[memory] >= HAD;
    }

    /** The RULE IN FORCE, or null without one. */
    private Rule ruling() {
        return within(now.inForce, 0, ruleCount - 1) ? rules[now.inForce] : null;
    }

    /** The TAPE, and a reader that goes along it up to the first FAULT. */
    private static final class Tape {
        private static final int DIGITS_MOST = 5;
        private static final int BEHIND = -1;

        private final byte[] bytes = new byte[TAPE_MOST];
        int size;
        int at;
        int flaw;

        void put(int number) {
            for (int shift = 24; shift >= 0; shift -= 8) {
                if (size < bytes.length) {
                    bytes[size] = (byte) (number >> shift);
                    size++;
                }
            }
        }

        void rewind() {
            at = 0;
            flaw = 0;
        }

        /** Always false, so that a reader can end with it. */
        boolean blame(int place, int kind) {
            if (flaw == 0) {
                flaw = 1 + 8 * place + kind;
            }
            return false;
        }

        /** The byte that is next, 0 to 255, or BEHIND the last one. */
        int peek() {
            return at < size ? bytes[at] & 255 : BEHIND;
        }

        boolean onDigit() {
            return at < size && bytes[at] >= '0' && bytes[at] <= '9';
        }

        void skip() {
            while (at < size && bytes[at] == ' ') {
                at++;
            }
        }

        /** Only blanks, if anything, are left. */
        boolean over() {
            skip();
            return peek() == BEHIND;
        }

        boolean took(int sign) {
            if (peek() != sign) {
                return false;
            }
            at++;
            return true;
        }

        /** Which of the names, told with one blank between, the WORD here is; NONE: it is none of them. */
        int find(String names) {
            int which = 0;
            int behind = at;
            boolean alike = true;
            for (int i = 0; i <= names.length(); i++) {
                int next = behind < size ? bytes[behind] : BEHIND;
                if (i < names.length() && names.charAt(i) != ' ') {
                    alike = alike && next == names.charAt(i);
                    behind++;
                } else if (alike && (next < 'a' || next > 'z')) {
                    return which;
                } else {
                    which++;
                    behind = at;
                    alike = true;
                }
            }
            return NONE;
        }

        void passWord() {
            while (at < size && bytes[at] >= 'a' && bytes[at] <= 'z') {
                at++;
            }
        }

        boolean tookWord(String word) {
            skip();
            if (find(word) == NONE) {
                return false;
            }
            passWord();
            return true;
        }

        /** A NUMBER, blanks ahead of it passed; behind a FAULT nothing is read, and NONE is answered. */
        int number(int least, int most) {
            if (flaw != 0) {
                return NONE;
            }
            skip();
            int first = at;
            int value = 0;
            while (at < size && bytes[at] >= '0' && bytes[at] <= '9') {
                // More digits are a FAULT anyway, and must not run over.
                if (at - first < DIGITS_MOST) {
                    value = 10 * value + bytes[at] - '0';
                }
                at++;
            }
            int digits = at - first;
            if (digits > 0 && digits <= DIGITS_MOST && value >= least && value <= most) {
                return value;
            }
            blame(first, digits == 0 ? 0 : 1);
            return NONE;
        }
    }

    /** What a text told. */
    private static final class River {
        private static final int CLAUSES_MOST = 40;

        boolean told;
        int pools;
        int big;
        int moons;
        int people;
        int memories;
        int traps;
        final int[] light = new int[MOONS_MOST];
        final int[] strong = new int[PEOPLE_MOST];
        final int[] pool = new int[MEMORIES_MOST];
        final int[] size = new int[MEMORIES_MOST];
        final int[] smell = new int[MEMORIES_MOST];
        final int[] whose = new int[MEMORIES_MOST];
        final int[] sunk = new int[TRAPS_MOST];
        final int[] throat = new int[TRAPS_MOST];
        final int[] bait = new int[TRAPS_MOST];
        final int[] keeper = new int[TRAPS_MOST];

        void copy(River other) {
            told = other.told;
            pools = other.pools;
            big = other.big;
            moons = other.moons;
            people = other.people;
            memories = other.memories;
            traps = other.traps;
            System.arraycopy(other.light, 0, light, 0, MOONS_MOST);
            System.arraycopy(other.strong, 0, strong, 0, PEOPLE_MOST);
            System.arraycopy(other.pool, 0, pool, 0, MEMORIES_MOST);
            System.arraycopy(other.size, 0, size, 0, MEMORIES_MOST);
            System.arraycopy(other.smell, 0, smell, 0, MEMORIES_MOST);
            System.arraycopy(other.whose, 0, whose, 0, MEMORIES_MOST);
            System.arraycopy(other.sunk, 0, sunk, 0, TRAPS_MOST);
            System.arraycopy(other.throat, 0, throat, 0, TRAPS_MOST);
            System.arraycopy(other.bait, 0, bait, 0, TRAPS_MOST);
            System.arraycopy(other.keeper, 0, keeper, 0, TRAPS_MOST);
        }

        /** How many NIGHTS come round: without a moon one, of LIGHT 0. */
        int round() {
            return told ? Math.max(1, moons) : 0;
        }

        int lightOf(int night) {
            return moons <= 0 || night < 0 ? 0 : light[night % moons];
        }

        boolean read(Tape tape) {
            told = false;
            moons = 0;
            people = 0;
            memories = 0;
            traps = 0;
            tape.rewind();
            for (int clauses = 0; clauses <= CLAUSES_MOST; clauses++) {
                tape.skip();
                int kind = tape.find("river moon person memory trap");
                if (kind == NONE) {
                    return tape.blame(tape.at, 0);
                }
                boolean first = clauses == 0;
                if (clauses == CLAUSES_MOST || first != (kind == 0) || hasNoRoom(kind)) {
                    return tape.blame(tape.at, 4);
                }
                tape.passWord();
                readClause(tape, kind);
                if (tape.flaw != 0) {
                    return false;
                }
                if (tape.over()) {
                    told = true;
                    return true;
                }
                if (!tape.took(';')) {
                    return tape.blame(tape.at, 0);
                }
            }
            return false;
        }

        private boolean hasNoRoom(int kind) {
            switch (kind) {
                case 1: return moons >= MOONS_MOST;
                case 2: return people >= PEOPLE_MOST;
                case 3: return memories >= MEMORIES_MOST;
                case 4: return traps >= TRAPS_MOST;
                default: return false;
            }
        }

        private void readClause(Tape tape, int kind) {
            switch (kind) {
                case 0:
                    pools = tape.number(2, POOLS_MOST);
                    big = tape.number(1, 9);
                    break;
                case 1:
                    light[moons] = tape.number(0, 9);
                    moons++;
                    break;
                case 2:
                    strong[people] = tape.number(1, 9);
                    people++;
                    break;
                case 3:
                    pool[memories] = tape.number(0, pools - 1);
                    size[memories] = tape.number(1, 9);
                    smell[memories] = tape.number(0, BAITS - 1);
                    whose[memories] = tape.number(0, people - 1);
                    memories++;
                    break;
                default:
                    sunk[traps] = tape.number(0, pools - 1);
                    throat[traps] = tape.number(1, THROAT_MOST);
                    bait[traps] = tape.number(0, BAITS - 1);
                    keeper[traps] = tape.number(0, people - 1);
                    traps++;
                    break;
            }
        }
    }

    /** A RULE as steps on a stack, in the order of its text, operands ahead of what joins them. */
    private static final class Rule {
        /** Steps without a sign of their own; the others are the signs. */
        static final int UP_TO = 1;
        static final int AT_LEAST = 2;
        static final int NOT = 3;
        static final int AND = 4;
        static final int OR = 5;
        static final int NUMBER = 6;
        static final int WORD = 7;
        static final int ANSWER = 8;
        static final int ANSWER_IF = 9;

        private static final int CLAUSES_MOST = 12;
        private static final int DEEP_MOST = 10;
        private static final int UNITS_MOST = 60;
        private static final int NUMBER_MOST = 99999;
        /** In the order of Stream.wordValue. */
        private static final String WORDS =
            "memory pool from size smell bait traps with light next whose night";
        private static final int LIGHT_WORD = 8;
        private static final int NEXT_WORD = 9;
        private static final int NIGHT_WORD = 11;

        /** Each step comes from a byte of the text at least, so there are never more. */
        final int[] code = new int[TAPE_MOST];
        final int[] given = new int[TAPE_MOST];
        int length;
        /** It looks at the NIGHT or a LIGHT, so that a NIGHT in which nothing goes tells nothing of the next. */
        boolean timed;
        private int units;

        boolean read(Tape tape) {
            length = 0;
            timed = false;
            units = 0;
            tape.rewind();
            for (int clauses = 0; clauses <= CLAUSES_MOST; clauses++) {
                tape.skip();
                if (tape.find("go") == NONE) {
                    return tape.blame(tape.at, 0);
                }
                if (clauses == CLAUSES_MOST) {
                    return tape.blame(tape.at, 4);
                }
                tape.passWord();
                if (!readSum(tape)) {
                    return false;
                }
                boolean tested = tape.tookWord("if");
                if (tested && !readTest(tape, 0)) {
                    return false;
                }
                emit(tested ? ANSWER_IF : ANSWER, 0);
                if (tape.over()) {
                    return true;
                }
                if (!tape.took(';')) {
                    return tape.blame(tape.at, 0);
                }
            }
            return false;
        }

        private void emit(int step, int value) {
            if (length < code.length) {
                code[length] = step;
                given[length] = value;
                length++;
            }
        }

        private boolean readTest(Tape tape, int deep) {
            boolean good = readPart(tape, deep);
            for (int i = 0; i <= UNITS_MOST && good && tape.tookWord("or"); i++) {
                good = readPart(tape, deep);
                emit(OR, 0);
            }
            return good;
        }

        private boolean readPart(Tape tape, int deep) {
            boolean good = readFact(tape, deep);
            for (int i = 0; i <= UNITS_MOST && good && tape.tookWord("and"); i++) {
                good = readFact(tape, deep);
                emit(AND, 0);
            }
            return good;
        }

        private boolean readFact(Tape tape, int deep) {
            tape.skip();
            boolean denied = tape.find("not") != NONE;
            if (!denied && tape.peek() != '[') {
                return readComparison(tape);
            }
            if (deep >= DEEP_MOST) {
                return tape.blame(tape.at, 2);
            }
            if (denied) {
                tape.passWord();
                boolean good = readFact(tape, deep + 1);
                emit(NOT, 0);
                return good;
            }
            tape.took('[');
            if (!readTest(tape, deep + 1)) {
                return false;
            }
            tape.skip();
            return tape.took(']') || tape.blame(tape.at, 0);
        }

        private boolean readComparison(Tape tape) {
            if (!readSum(tape)) {
                return false;
            }
            tape.skip();
            int place = tape.at;
            int sign = readSign(tape);
            if (sign == NONE) {
                return tape.blame(place, 0);
            }
            if (!hasUnit(tape, place) || !readSum(tape)) {
                return false;
            }
            emit(sign, 0);
            return true;
        }

        private static int readSign(Tape tape) {
            if (tape.took('=')) {
                return '=';
            }
            if (tape.took('<')) {
                return tape.took('=') ? UP_TO : '<';
            }
            if (tape.took('>')) {
                return tape.took('=') ? AT_LEAST : '>';
            }
            return NONE;
        }

        private boolean readSum(Tape tape) {
            int waiting = 0;
            boolean good = readValue(tape);
            for (int i = 0; i <= UNITS_MOST && good; i++) {
                tape.skip();
                int sign = tape.peek();
                if (sign == '*' || sign == '/' || sign == '%') {
                    tape.took(sign);
                    good = readValue(tape);
                    emit(sign, 0);
                } else if (sign == '+' || sign == '-') {
                    // The one ahead joins only now, for its right TERM ends here.
                    emitSign(waiting);
                    waiting = sign;
                    tape.took(sign);
                    good = readValue(tape);
                } else {
                    break;
                }
            }
            emitSign(waiting);
            return good;
        }

        private void emitSign(int sign) {
            if (sign != 0) {
                emit(sign, 0);
            }
        }

        private boolean readValue(Tape tape) {
            tape.skip();
            int place = tape.at;
            if (tape.onDigit()) {
                emit(NUMBER, tape.number(0, NUMBER_MOST));
                return tape.flaw == 0 && hasUnit(tape, place);
            }
            int word = tape.find(WORDS);
            if (word == NONE) {
                return tape.blame(place, 0);
            }
            tape.passWord();
            timed = timed || word == LIGHT_WORD || word == NEXT_WORD || word == NIGHT_WORD;
            emit(WORD, word);
            return hasUnit(tape, place);
        }

        private boolean hasUnit(Tape tape, int place) {
            units++;
            return units <= UNITS_MOST || tape.blame(place, 3);
        }
    }

    /** How all is at a NIGHT's begin, with what may be asked otherwise than the text told it. */
    private static final class Water {
        int night;
        final int[] place = new int[MEMORIES_MOST];
        final int[] whose = new int[MEMORIES_MOST];
        final int[] sunk = new int[TRAPS_MOST];
        final int[] throat = new int[TRAPS_MOST];
        final int[] bait = new int[TRAPS_MOST];
        final int[] inside = new int[TRAPS_MOST];

        void copy(Water other) {
            night = other.night;
            System.arraycopy(other.place, 0, place, 0, MEMORIES_MOST);
            System.arraycopy(other.whose, 0, whose, 0, MEMORIES_MOST);
            System.arraycopy(other.sunk, 0, sunk, 0, TRAPS_MOST);
            System.arraycopy(other.throat, 0, throat, 0, TRAPS_MOST);
            System.arraycopy(other.bait, 0, bait, 0, TRAPS_MOST);
            System.arraycopy(other.inside, 0, inside, 0, TRAPS_MOST);
        }

        void begin(River river) {
            night = 0;
            for (int m = 0; m < MEMORIES_MOST; m++) {
                place[m] = river.pool[m];
                whose[m] = river.whose[m];
            }
            for (int t = 0; t < TRAPS_MOST; t++) {
                sunk[t] = river.sunk[t];
                throat[t] = river.throat[t];
                bait[t] = river.bait[t];
                inside[t] = NONE;
            }
        }

        /** Of the first so many MEMORIES those in a place, as bits. */
        int bitsAt(int where, int memories) {
            int bits = 0;
            for (int m = 0; m < memories && m < MEMORIES_MOST; m++) {
                if (place[m] == where) {
                    bits |= 1 << m;
                }
            }
            return bits;
        }

        int fullTraps(int traps) {
            int many = 0;
            for (int t = 0; t < traps && t < TRAPS_MOST; t++) {
                if (inside[t] != NONE) {
                    many++;
                }
            }
            return many;
        }

        /** All places in one number; they are below 64 when 1 is added. */
        long places(int memories) {
            long all = 0;
            for (int m = 0; m < memories && m < MEMORIES_MOST; m++) {
                all = all * 64 + place[m] + 1;
            }
            return all;
        }
    }

    private static final class Notes {
        int size;
        private final int[] when = new int[NOTES_MOST];
        private final int[] memory = new int[NOTES_MOST];
        private final int[] pool = new int[NOTES_MOST];

        boolean add(int n, int ofMemory, int inPool) {
            if (size >= NOTES_MOST) {
                return false;
            }
            when[size] = n;
            memory[size] = ofMemory;
            pool[size] = inPool;
            size++;
            return true;
        }

        void copy(Notes other) {
            size = other.size;
            System.arraycopy(other.when, 0, when, 0, NOTES_MOST);
            System.arraycopy(other.memory, 0, memory, 0, NOTES_MOST);
            System.arraycopy(other.pool, 0, pool, 0, NOTES_MOST);
        }

        int lastNight() {
            int last = 0;
            for (int i = 0; i < size && i < NOTES_MOST; i++) {
                last = Math.max(last, when[i]);
            }
            return last;
        }

        /** All NOTES of the NIGHT that begins are so. */
        boolean hold(Water water) {
            for (int i = 0; i < size && i < NOTES_MOST; i++) {
                if (when[i] == water.night && poolOrNone(water.place[memory[i]]) != pool[i]) {
                    return false;
                }
            }
            return true;
        }

        static int poolOrNone(int place) {
            return isFreePlace(place) ? place : NONE;
        }
    }

    /** What an IMAGE holds. */
    private static final class Scene {
        final River river = new River();
        final Water water = new Water();
        final Notes notes = new Notes();
        int inForce = NONE;
        int x;
        boolean made;

        void copy(Scene other) {
            river.copy(other.river);
            water.copy(other.water);
            notes.copy(other.notes);
            inForce = other.inForce;
            x = other.x;
        }

        int bitsAt(int where) {
            return water.bitsAt(where, river.memories);
        }

        int freeBits() {
            int bits = 0;
            for (int m = 0; m < river.memories; m++) {
                if (isFreePlace(water.place[m])) {
                    bits |= 1 << m;
                }
            }
            return bits;
        }
    }

    /** The last ACTS: how all was ahead of each, in a row that goes round. */
    private static final class Acts {
        private final Water[] before = new Water[ACTS_MOST];
        private int next;
        int size;

        Acts() {
            for (int i = 0; i < ACTS_MOST; i++) {
                before[i] = new Water();
            }
        }

        void keep(Water water) {
            before[next].copy(water);
            next = (next + 1) % ACTS_MOST;
            size = Math.min(size + 1, ACTS_MOST);
        }

        int takeBack(Water water) {
            if (size <= 0) {
                return NONE;
            }
            next = (next + ACTS_MOST - 1) % ACTS_MOST;
            water.copy(before[next]);
            size--;
            return size;
        }
    }

    /** NIGHTS. */
    private static final class Stream {
        /** Brackets leave two values each at most, and lie ten deep. */
        private static final int STACK_MOST = 64;

        private final long[] stack = new long[STACK_MOST];
        private final int[] goal = new int[MEMORIES_MOST];
        private final int[] crowd = new int[POOLS_MOST];
        private final int[] trapsIn = new int[POOLS_MOST];
        private River river;
        private Water water;
        private Rule rule;
        private int light;
        private int nextLight;
        private int self;
        private int pool;
        private boolean moved;

        /** NIGHTS by the moons. */
        void pass(River ofRiver, Water ofWater, Rule by, int nights) {
            int behind = ofWater.night + nights;
            for (int i = 0; i < nights; i++) {
                step(ofRiver, ofWater, by, ofRiver.lightOf(ofWater.night));
                if (isStill()) {
                    break;
                }
            }
            ofWater.night = behind;
        }

        /** In the last NIGHT nothing went, and nothing will in the next ones. */
        boolean isStill() {
            return !moved && (rule == null || !rule.timed);
        }

        /** One NIGHT of a LIGHT; the MEMORIES that go into TRAPS, as bits. */
        int step(River ofRiver, Water ofWater, Rule by, int itsLight) {
            river = ofRiver;
            water = ofWater;
            rule = by;
            light = itsLight;
            nextLight = river.lightOf(water.night + 1);
            moved = false;
            if (rule != null) {
                countPools();
            }
            // All goals ahead of the first move, for they go all at once.
            for (int m = 0; m < river.memories; m++) {
                goal[m] = isFreePlace(water.place[m]) ? goalOf(m) : water.place[m];
            }
            for (int m = 0; m < river.memories; m++) {
                int to = goesToSea(m) ? NONE : goal[m];
                moved = moved || to != water.place[m];
                water.place[m] = to;
            }
            int caught = fillTraps();
            moved = moved || caught != 0;
            water.night++;
            return caught;
        }

        /** Of each POOL how many FREE MEMORIES and TRAPS are in it. */
        private void countPools() {
            for (int p = 0; p < POOLS_MOST; p++) {
                crowd[p] = 0;
                trapsIn[p] = 0;
            }
            for (int m = 0; m < river.memories; m++) {
                if (isFreePlace(water.place[m])) {
                    crowd[water.place[m]]++;
                }
            }
            for (int t = 0; t < river.traps; t++) {
                trapsIn[water.sunk[t]]++;
            }
        }

        private int goalOf(int memory) {
            int from = water.place[memory];
            int last = river.pools - 1;
            if (rule == null) {
                return Math.min(from + 1, last);
            }
            self = memory;
            int to = from;
            long most = 0;
            for (int p = Math.max(from - 1, 0); p <= Math.min(from + 1, last); p++) {
                pool = p;
                long worth = worthOfPool();
                if (worth > most) {
                    most = worth;
                    to = p;
                }
            }
            return to;
        }

        private boolean goesToSea(int memory) {
            int last = river.pools - 1;
            return water.place[memory] == last && goal[memory] == last && river.size[memory] >= river.big;
        }

        private int fillTraps() {
            int caught = 0;
            for (int t = 0; t < river.traps; t++) {
                for (int m = 0; m < river.memories && water.inside[t] == NONE; m++) {
                    if (water.place[m] == water.sunk[t] && river.smell[m] == water.bait[t]
                            && river.size[m] <= water.throat[t]) {
                        water.place[m] = IN_TRAP + t;
                        water.inside[t] = m;
                        caught |= 1 << m;
                    }
                }
            }
            return caught;
        }

        /** What the RULE answers for the MEMORY self and the POOL. */
        private long worthOfPool() {
            int top = 0;
            for (int i = 0; i < rule.length; i++) {
                int step = rule.code[i];
                if (step == Rule.NUMBER || step == Rule.WORD) {
                    if (top < STACK_MOST) {
                        stack[top] = step == Rule.NUMBER ? rule.given[i] : wordValue(rule.given[i]);
                        top++;
                    }
                } else if (step == Rule.ANSWER) {
                    return top >= 1 ? stack[top - 1] : 0;
                } else if (step == Rule.NOT) {
                    if (top >= 1) {
                        stack[top - 1] = 1 - stack[top - 1];
                    }
                } else if (top >= 2) {
                    if (step == Rule.ANSWER_IF) {
                        if (stack[top - 1] != 0) {
                            return stack[top - 2];
                        }
                        top -= 2;
                    } else {
                        stack[top - 2] = join(step, stack[top - 2], stack[top - 1]);
                        top--;
                    }
                }
            }
            return 0;
        }

        private static long join(int step, long a, long b) {
            switch (step) {
                case '+': return a + b;
                case '-': return a - b;
                case '*': return a * b;
                case '/': return b == 0 ? 0 : a / b;
                case '%': return b == 0 ? 0 : a % b;
                case '<': return a < b ? 1 : 0;
                case Rule.UP_TO: return a <= b ? 1 : 0;
                case '=': return a == b ? 1 : 0;
                case Rule.AT_LEAST: return a >= b ? 1 : 0;
                case '>': return a > b ? 1 : 0;
                case Rule.AND: return a & b;
                case Rule.OR: return a | b;
                default: return 0;
            }
        }

        private int wordValue(int word) {
            switch (word) {
                case 0: return self;
                case 1: return pool;
                case 2: return water.place[self];
                case 3: return river.size[self];
                case 4: return river.smell[self];
                case 5:
                    int baits = 0;
                    for (int t = 0; t < river.traps; t++) {
                        if (water.sunk[t] == pool && water.inside[t] == NONE
                                && water.bait[t] == river.smell[self]) {
                            baits++;
                        }
                    }
                    return baits;
                case 6: return trapsIn[pool];
                case 7: return crowd[pool] - (water.place[self] == pool ? 1 : 0);
                case 8: return light;
                case 9: return nextLight;
                case 10: return water.whose[self];
                default: return water.night;
            }
        }
    }

    /** What is asked of NIGHTS to come; all of it is tried in a water of its own. */
    private static final class Asking {
        private static final int NIGHTS_WAITED = 200;
        private static final int NIGHTS_ROUND = 60;

        private final Stream stream = new Stream();
        private final Water trial = new Water();
        private final long[] places = new long[NIGHTS_ROUND + 1];
        private final int[] oneHas = new int[BAITS * BAITS];
        private final int[] otherHas = new int[BAITS * BAITS];
        private long x;

        Water after(Scene now, Rule by, int n) {
            trial.copy(now.water);
            stream.pass(now.river, trial, by, n);
            return trial;
        }

        int firstCatch(Scene now, Rule by, int memory, int what) {
            trial.copy(now.water);
            for (int i = 0; i < NIGHTS_WAITED && isFreePlace(trial.place[memory]); i++) {
                stream.pass(now.river, trial, by, 1);
                if (stream.isStill()) {
                    break;
                }
            }
            if (trial.place[memory] < IN_TRAP) {
                return NOT_SO;
            }
            // The water stands behind the NIGHT of the catch.
            return what == 0 ? trial.night - 1 : trial.place[memory] - IN_TRAP;
        }

        int firstFull(Scene now, Rule by) {
            trial.copy(now.water);
            for (int i = 0; i < NIGHTS_WAITED; i++) {
                int night = trial.night;
                stream.pass(now.river, trial, by, 1);
                if (trial.fullTraps(now.river.traps) == now.river.traps) {
                    return night;
                }
                if (stream.isStill()) {
                    break;
                }
            }
            return NOT_SO;
        }

        int bestPlace(Scene now, Rule by, int trap, int n, int what) {
            int most = after(now, by, n).fullTraps(now.river.traps);
            int bestPool = NONE;
            int bestBait = NONE;
            int smells = smellsOfFree(now);
            for (int pool = 0; pool < now.river.pools; pool++) {
                boolean vainTried = false;
                for (int bait = 0; bait < BAITS; bait++) {
                    boolean vain = (smells >> bait & 1) == 0;
                    // BAITS that nobody FREE smells are all alike: the least of them speaks for all.
                    if (vain && vainTried) {
                        continue;
                    }
                    vainTried |= vain;
                    trial.copy(now.water);
                    trial.sunk[trap] = pool;
                    trial.bait[trap] = bait;
                    stream.pass(now.river, trial, by, n);
                    int many = trial.fullTraps(now.river.traps);
                    if (many > most) {
                        most = many;
                        bestPool = pool;
                        bestBait = bait;
                    }
                }
            }
            if (what == 0) {
                return most;
            }
            return what == 1 ? bestPool : bestBait;
        }

        private static int smellsOfFree(Scene now) {
            int smells = 0;
            for (int m = 0; m < now.river.memories; m++) {
                if (isFreePlace(now.water.place[m])) {
                    smells |= 1 << now.river.smell[m];
                }
            }
            return smells;
        }

        int poolsBefore(Scene now, Rule by, int memory, int n, int pool) {
            int bits = 0;
            for (int p = 0; p < now.river.pools; p++) {
                trial.copy(now.water);
                trial.place[memory] = p;
                stream.pass(now.river, trial, by, n);
                if (trial.place[memory] == pool) {
                    bits |= 1 << p;
                }
            }
            return bits;
        }

        int leastThroat(Scene now, Rule by, int trap, int n) {
            for (int throat = 1; throat <= THROAT_MOST; throat++) {
                trial.copy(now.water);
                trial.throat[trap] = throat;
                stream.pass(now.river, trial, by, n);
                if (trial.inside[trap] != NONE) {
                    return throat;
                }
            }
            return NOT_SO;
        }

        int steadyBaits(Scene now, Rule by, int one, int other, int n, int what) {
            for (int i = 0; i < BAITS * BAITS; i++) {
                trial.copy(now.water);
                trial.bait[one] = i / BAITS;
                trial.bait[other] = i % BAITS;
                stream.pass(now.river, trial, by, n);
                oneHas[i] = sizeIn(now.river, one);
                otherHas[i] = sizeIn(now.river, other);
            }
            int many = 0;
            int first = NONE;
            for (int i = BAITS * BAITS - 1; i >= 0; i--) {
                if (isSteady(i)) {
                    many++;
                    first = i;
                }
            }
            if (what == 0) {
                return many;
            }
            if (first == NONE) {
                return NOT_SO;
            }
            return what == 1 ? first / BAITS : first % BAITS;
        }

        private int sizeIn(River river, int trap) {
            int memory = trial.inside[trap];
            return memory == NONE ? 0 : river.size[memory];
        }

        private boolean isSteady(int two) {
            int bait = two / BAITS;
            int otherBait = two % BAITS;
            for (int b = 0; b < BAITS; b++) {
                if (oneHas[b * BAITS + otherBait] > oneHas[two] || otherHas[bait * BAITS + b] > otherHas[two]) {
                    return false;
                }
            }
            return true;
        }

        int firstRound(Scene now, Rule by, int what) {
            trial.copy(now.water);
            for (int i = 0; i <= NIGHTS_ROUND; i++) {
                places[i] = trial.places(now.river.memories);
                stream.pass(now.river, trial, by, 1);
            }
            int round = Math.max(1, now.river.round());
            for (int i = 0; i < NIGHTS_ROUND; i++) {
                for (int later = i + round; later <= NIGHTS_ROUND; later += round) {
                    if (places[i] == places[later]) {
                        return what == 0 ? now.water.night + i : later - i;
                    }
                }
            }
            return NOT_SO;
        }

        int drawnNights(Scene now, Rule by, int m, int n, int p, int what) {
            x = now.x;
            int many = 0;
            for (int time = 0; time < m; time++) {
                trial.copy(now.water);
                for (int i = 0; i < n; i++) {
                    int light = now.river.lightOf(trial.night);
                    if (draw() % 100 < p) {
                        light = draw() % 10;
                    }
                    stream.step(now.river, trial, by, light);
                }
                many += what == 0 ? trial.fullTraps(now.river.traps)
                    : Integer.bitCount(trial.bitsAt(NONE, now.river.memories));
            }
            return many;
        }

        private int draw() {
            x = (x * 1103515245L + 12345L) % 2147483648L;
            return (int) (x / 65536L);
        }
    }

    /** What NOTES tell of RULES and of WHOSE a MEMORY is. */
    private static final class Guessing {
        private final Stream stream = new Stream();
        private final Water trial = new Water();
        /** The RULES that are so, and NONE among them; of each, where the MEMORIES were. */
        private final int[] fitting = new int[RULES_MOST + 1];
        private final int[] seen = new int[(RULES_MOST + 1) * MEMORIES_MOST];

        int owners(Scene now, Rule by, int memory) {
            int bits = 0;
            for (int p = 0; p < now.river.people; p++) {
                trial.begin(now.river);
                trial.whose[memory] = p;
                if (fits(now, by, 0, 0)) {
                    bits |= 1 << p;
                }
            }
            return bits;
        }

        /** How many of the RULES, and of none, are so; where the MEMORIES were at the begin of NIGHT n is kept. */
        int sieve(Scene now, Rule[] rules, int ruleCount, int n) {
            int many = 0;
            for (int r = NONE; r < ruleCount && r < RULES_MOST; r++) {
                trial.begin(now.river);
                if (fits(now, r == NONE ? null : rules[r], n, many)) {
                    fitting[many] = r;
                    many++;
                }
            }
            return many;
        }

        int firstFitting() {
            return fitting[0];
        }

        /** From the trial's begin on all NOTES are so; where the MEMORIES were at the begin of NIGHT n goes into the row. */
        private boolean fits(Scene now, Rule by, int n, int row) {
            int last = Math.max(n, now.notes.lastNight());
            for (int night = 0; night <= last; night++) {
                if (!now.notes.hold(trial)) {
                    return false;
                }
                if (night == n) {
                    for (int m = 0; m < MEMORIES_MOST; m++) {
                        seen[row * MEMORIES_MOST + m] = Notes.poolOrNone(trial.place[m]);
                    }
                }
                if (night < last) {
                    stream.pass(now.river, trial, by, 1);
                }
            }
            return true;
        }

        int bestParting(int many, int memories, int what) {
            int best = NONE;
            int fewest = many + 1;
            for (int m = 0; m < memories; m++) {
                int alike = mostAlike(many, m);
                if (alike < fewest) {
                    fewest = alike;
                    best = m;
                }
            }
            return what == 0 ? best : fewest;
        }

        private int mostAlike(int many, int memory) {
            int most = 0;
            for (int i = 0; i < many; i++) {
                int alike = 0;
                for (int j = 0; j < many; j++) {
                    if (seen[i * MEMORIES_MOST + memory] == seen[j * MEMORIES_MOST + memory]) {
                        alike++;
                    }
                }
                most = Math.max(most, alike);
            }
            return most;
        }
    }

    /** What PEOPLE HAVE. */
    private static final class Hands {
        static int strayed(Scene now) {
            int bits = 0;
            for (int m = 0; m < now.river.memories; m++) {
                int place = now.water.place[m];
                if (place >= HAD && place != HAD + now.river.whose[m]) {
                    bits |= 1 << m;
                }
            }
            return bits;
        }

        static int ringed(Scene now, int what) {
            int many = 0;
            int largest = 0;
            for (int set = 1; set < 1 << now.river.people; set++) {
                if (Integer.bitCount(set) >= 2 && isRing(now, set)) {
                    many++;
                    if (Integer.bitCount(set) > Integer.bitCount(largest)) {
                        largest = set;
                    }
                }
            }
            return what == 0 ? many : largest;
        }

        private static boolean isRing(Scene now, int set) {
            int takers = 0;
            int losers = 0;
            int strayed = strayed(now);
            for (int m = 0; m < now.river.memories; m++) {
                if ((strayed >> m & 1) != 0) {
                    int taker = 1 << now.water.place[m] - HAD;
                    int loser = 1 << now.river.whose[m];
                    if ((set & taker) != 0 && (set & loser) != 0) {
                        takers |= taker;
                        losers |= loser;
                    }
                }
            }
            return takers == set && losers == set;
        }

        static int share(Scene now, int much, int person) {
            int all = 0;
            int given = 0;
            for (int p = 0; p < now.river.people; p++) {
                all += sizesOf(now, p);
            }
            if (all == 0) {
                return 0;
            }
            int lost = much * sizesOf(now, person) % all;
            int ahead = 0;
            for (int p = 0; p < now.river.people; p++) {
                int part = much * sizesOf(now, p);
                given += part / all;
                if (part % all > lost || part % all == lost && p < person) {
                    ahead++;
                }
            }
            return much * sizesOf(now, person) / all + (ahead < much - given ? 1 : 0);
        }

        private static int sizesOf(Scene now, int person) {
            int sizes = 0;
            for (int m = 0; m < now.river.memories; m++) {
                if (now.water.place[m] == HAD + person) {
                    sizes += now.river.size[m];
                }
            }
            return sizes;
        }
    }
}
