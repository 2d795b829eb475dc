import java.io.IOException;
import java.io.UncheckedIOException;
import java.nio.file.Files;
import java.nio.file.Path;
import java.util.function.Supplier;
import java.util.function.ToIntFunction;

/** What the edge tests share: a test of its own for each sentence of the document that names an edge. */
final class Edge {
    /** Behind rich() MEMORY 0 is FREE in 2, 1 in TRAP 0, 2 at SEA, 3 HAD by PERSON 0, 4 FREE in 3; TRAPS 1 and 2 are empty. */
    private static final String RICH = "river 5 6;moon 3;moon 7;moon 1;person 4;person 9;person 2"
        + ";memory 0 2 1 0;memory 2 6 2 1;memory 4 7 3 0;memory 1 3 4 2;memory 1 1 5 0"
        + ";trap 3 9 2 1;trap 2 3 4 0;trap 4 5 6 2";
    private static final String ON_TAPE = "river 3 4;person 5;memory 2 1 0 0";

    private final Due due = new Due();
    private final String name;
    private final String document;
    private String sentence = "";

    Edge(String name) {
        this.name = name;
        try {
            document = Files.readString(Path.of("../shared/DOC.md")).replaceAll("\\s+", " ");
        } catch (IOException e) {
            throw new UncheckedIOException(e);
        }
    }

    /** The words must stand in the document, so that no test outlives its sentence. */
    void of(String words, Runnable test) {
        sentence = words;
        due.is("in the document stands '" + words + "'", document.contains(words) ? 1 : 0, 1);
        test.run();
    }

    void is(String call, long got, long want) {
        due.is("'" + sentence + "': " + call, got, want);
    }

    /** The call answers so, and behind it all is as if it had not been. */
    void still(String call, Supplier<EelThroat> made, ToIntFunction<EelThroat> asked, int answer) {
        EelThroat x = made.get();
        is(call, asked.applyAsInt(x), answer);
        same(call, x, made.get());
    }

    /** Where something of every kind is there. */
    void refused(String call, ToIntFunction<EelThroat> asked, int answer) {
        still(call, Edge::rich, asked, answer);
    }

    void without(String call, ToIntFunction<EelThroat> asked, int answer) {
        still(call + " without a RIVER", EelThroat::new, asked, answer);
    }

    void same(String call, EelThroat x, EelThroat y) {
        String is = Whole.all(x);
        String was = Whole.all(y);
        int at = 0;
        while (at < is.length() && at < was.length() && is.charAt(at) == was.charAt(at)) {
            at++;
        }
        is(call + ": all is alike up to sign", is.equals(was) ? -1 : at, -1);
    }

    void close() {
        due.close(name);
    }

    /** The first numbers beyond what is taken, and the last there are. */
    static int[] outside(int least, int most) {
        return new int[] {Integer.MIN_VALUE, least - 1, most + 1, Integer.MAX_VALUE};
    }

    /** Of every kind something: RULES, one IN FORCE, NOTES, ACTS, IMAGES 0 and 2, x, a text on the TAPE. */
    static EelThroat rich() {
        EelThroat x = Due.with(RICH);
        Due.rule(x, "go 9 - pool");
        Due.rule(x, "go pool + 1 if light > 2;go 3 if pool = from");
        x.image(0);
        x.night();
        x.lift(1);
        x.sink(2, 3, 6);
        x.seed(12345);
        x.note(1, 0, 1);
        x.note(0, 3, 1);
        x.note(60, 2, EelThroat.NONE);
        x.force(1);
        x.image(2);
        x.night();
        Due.tell(x, ON_TAPE);
        return x;
    }

    /** As rich(), with nothing on the TAPE. */
    static EelThroat richWithoutTape() {
        EelThroat x = rich();
        x.end(0);
        return x;
    }

    /** One MEMORY of SIZE 4 and SMELL 3 in the higher of two POOLS, which goes down in one NIGHT alone; a TRAP for it below. */
    static EelThroat waiting(int night) {
        return Due.with("river 2 9;person 9;memory 0 4 3 0;trap 1 9 3 0", "go pool if night = " + night);
    }
}
