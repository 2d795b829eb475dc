/** What the project's tests share: texts put on the TAPE, and answers held against what is due. */
final class Due {
    private int asked = 0;
    private int wrong = 0;

    void is(String call, long got, long want) {
        asked++;
        if (got != want) {
            wrong++;
            System.out.println(call + " answered " + got + ", due is " + want);
        }
    }

    /** Ends the test as the form of a test asks it. */
    void close(String name) {
        System.out.println(name + ": " + asked + " answers, " + wrong + " not as due");
        if (wrong != 0 || asked == 0) {
            System.exit(1);
        }
    }

    /** The text is the whole TAPE then. */
    static void tell(EelThroat x, String text) {
        x.end(0);
        for (int at = 0; at < text.length(); at += 20) {
            x.feed(word(text, at), word(text, at + 4), word(text, at + 8), word(text, at + 12), word(text, at + 16));
        }
        if (x.end(text.length()) != text.length()) {
            throw new IllegalStateException("the text has no room: " + text);
        }
    }

    static int word(String text, int at) {
        int number = 0;
        for (int i = at; i < at + 4; i++) {
            number = number << 8 | (i < text.length() ? text.charAt(i) & 255 : 0);
        }
        return number;
    }

    static int river(EelThroat x, String text) {
        tell(x, text);
        return x.river();
    }

    static int rule(EelThroat x, String text) {
        tell(x, text);
        return x.rule();
    }

    /** A new object with a RIVER and RULES, the last of which is IN FORCE; none, where there is no RULE. */
    static EelThroat with(String river, String... rules) {
        EelThroat x = new EelThroat();
        int memories = river(x, river);
        if (memories < 0) {
            throw new IllegalStateException("a FAULT, " + memories + ": " + river);
        }
        for (String text : rules) {
            int number = rule(x, text);
            if (number < 0) {
                throw new IllegalStateException("a FAULT, " + number + ": " + text);
            }
            x.force(number);
        }
        return x;
    }

    static void nights(EelThroat x, int n) {
        for (int i = 0; i < n; i++) {
            x.night();
        }
    }
}
