/** All that can be seen of an object, as one text, so that two objects can be held against one another. */
final class Whole {
    private static final int MEMORIES = 6;

    private Whole() {
    }

    /** What can be seen while nothing changes. */
    static String seen(EelThroat x) {
        StringBuilder text = new StringBuilder("\n");
        for (int i = 0; i < 15; i++) {
            text.append(x.count(i)).append(' ');
        }
        for (int m = 0; m < MEMORIES; m++) {
            text.append("| ");
            for (int what = 0; what < 4; what++) {
                text.append(x.memory(m, what)).append(' ');
            }
            text.append(x.ahead(m, 1)).append(' ').append(x.ahead(m, 4)).append(' ').append(x.of(m)).append(' ');
        }
        for (int t = 0; t < 4; t++) {
            text.append("| ");
            for (int what = 0; what < 5; what++) {
                text.append(x.trap(t, what)).append(' ');
            }
            text.append(x.throats(t, 3)).append(' ');
        }
        for (int i = 0; i < 12; i++) {
            text.append(x.moon(i)).append(' ').append(x.person(i)).append(' ');
        }
        text.append("| ").append(x.ruled(0)).append(' ').append(x.ruled(1)).append(' ').append(x.look(2, 0)).append(' ');
        text.append(x.look(2, 1)).append(' ').append(x.moons(2, 4, 50, 0)).append(' ').append(x.moons(2, 4, 50, 1));
        return text.toString();
    }

    /** And what it comes to by the RULES, the ACTS UNDONE, the IMAGES and the TAPE; the object is used up by that. */
    static String all(EelThroat x) {
        StringBuilder text = new StringBuilder(seen(x));
        int inForce = x.count(7);
        for (int r = 0; r < x.count(6); r++) {
            x.force(r);
            text.append("\nby RULE ").append(r).append(seen(x));
        }
        x.force(inForce);
        for (int i = 0; i < 21; i++) {
            text.append("\nundo ").append(x.undo()).append(seen(x));
        }
        for (int k = 0; k < 4; k++) {
            text.append("\nback ").append(x.back(k)).append(seen(x));
        }
        return text.append("\nTAPE ").append(x.river()).append(seen(x)).toString();
    }
}
