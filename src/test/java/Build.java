/** Short ways to make paragraphs. */
final class Build {
    static final int SIZE = 1073741823;
    static final int NOTHING = LineBreaker.NOTHING;

    private Build() {
    }

    /**
     * Items without any width: b a box, g glue, k a kern, e an explicit one, p a penalty of 0, f a
     * forced one, x one of 10000, and 0 to 9 a hyphen that replaces so many.
     */
    static LineBreaker made(String parts) {
        LineBreaker x = new LineBreaker();
        append(x, parts);
        return x;
    }

    static void append(LineBreaker x, String parts) {
        for (int i = 0; i < parts.length(); i++) {
            char part = parts.charAt(i);
            switch (part) {
                case 'b' -> x.box(0);
                case 'g' -> x.glue(0, 0, 0, 0);
                case 'k' -> x.kern(0, false);
                case 'e' -> x.kern(0, true);
                case 'p' -> x.penalty(0);
                case 'f' -> x.penalty(-10000);
                case 'x' -> x.penalty(10000);
                default -> x.hyphen(0, 0, part - '0');
            }
        }
    }

    static LineBreaker withBoxes(int count) {
        LineBreaker x = new LineBreaker();
        for (int i = 0; i < count; i++) {
            x.box(0);
        }
        return x;
    }

    /**
     * A line that ends at a forced penalty; its glue is no place to break, as it stands behind a
     * penalty that forbids it. Five items.
     */
    static void forcedLine(LineBreaker x, int width, int stretch, int shrink) {
        x.box(width);
        x.penalty(10000);
        x.glue(0, stretch, 0, shrink);
        x.box(0);
        x.penalty(-10000);
    }

    /** A new object whose line 0 misses so much and can stretch so much; then comes an empty one. */
    static LineBreaker loose(int missing, int stretch) {
        LineBreaker x = new LineBreaker();
        x.wide(0, missing);
        x.wide(1, 0);
        forcedLine(x, 0, stretch, 0);
        x.box(0);
        return x;
    }

    /** Its settings are none of the first ones, and no bounds either. */
    static LineBreaker steered() {
        LineBreaker x = new LineBreaker();
        int[] values = {90, 150, 12, 40, 60, 9000, 4000, 8000, 5, 1};
        for (int which = 0; which < 10; which++) {
            x.set(which, values[which]);
        }
        x.wide(0, 100);
        x.wide(1, 110);
        x.wide(19, 120);
        x.around(0, 3, 40, 0, 30);
        x.around(1, 2, 20, 0, 20);
        x.around(2, 1, 50, 0, 40);
        return x;
    }

    /** Steered, with items of each kind, but not broken. */
    static LineBreaker unbroken() {
        LineBreaker x = steered();
        x.box(60);
        x.glue(5, 10, 0, 5);
        x.box(20);
        x.hyphen(4, NOTHING, 1);
        x.kern(2, false);
        x.box(30);
        x.penalty(20);
        x.kern(1, true);
        x.glue(6, 20, 0, 5);
        x.box(50);
        return x;
    }

    /** The same, broken. */
    static LineBreaker broken() {
        LineBreaker x = unbroken();
        x.breakUp();
        return x;
    }

    /** Steered, and its last hyphen waits for two items. */
    static LineBreaker waiting() {
        LineBreaker x = steered();
        x.box(60);
        x.hyphen(4, 3, 3);
        x.box(10);
        return x;
    }

    /** 400 items, and broken. */
    static LineBreaker full() {
        LineBreaker x = withBoxes(398);
        x.penalty(-10000);
        x.box(7);
        x.breakUp();
        return x;
    }

    /** 400 items, the last of which is a hyphen that waits for two. */
    static LineBreaker fullAndWaiting() {
        LineBreaker x = withBoxes(399);
        x.hyphen(0, 0, 2);
        return x;
    }
}
