/** Promises 9 to 11: set, wide, around. */
public final class SettingsTest {
    private static final int SIZE = 1073741823;
    private static final int NOTHING = LineBreaker.NOTHING;
    private static final Class<IllegalArgumentException> ARGUMENT = IllegalArgumentException.class;
    private static final int[] LEAST = {-1, 0, -10000, -10000, -10000, -1000000, -1000000, -1000000, 0, -100};
    private static final int[] GREATEST =
        {10000, 10000, 10000, 10000, 10000, 1000000, 1000000, 1000000, SIZE, 100};

    public static void main(String[] args) {
        boundsOfSettings();
        setChangesNothingThatIsBroken();
        eachSettingCounts();
        boundsOfWidths();
        widthsOfLines();
        boundsOfAround();
        whatStandsAround();
        Check.done();
    }

    private static void set(LineBreaker x, int which, int value) {
        Check.same("set(" + which + ", " + value + ")", Check.outcome(() -> {
            x.set(which, value);
            return 7;
        }), "7");
    }

    private static void setFails(LineBreaker x, int which, int value) {
        Check.fails("set(" + which + ", " + value + ")", ARGUMENT, () -> {
            x.set(which, value);
            return 7;
        });
    }

    private static void boundsOfSettings() {
        LineBreaker x = new LineBreaker();
        for (int which = 0; which < 10; which++) {
            set(x, which, LEAST[which]);
            set(x, which, GREATEST[which]);
            setFails(x, which, LEAST[which] - 1);
            setFails(x, which, GREATEST[which] + 1);
            setFails(x, which, Integer.MIN_VALUE);
            setFails(x, which, Integer.MAX_VALUE);
        }
        for (int which : new int[] {-1, 10, Integer.MIN_VALUE, Integer.MAX_VALUE}) {
            setFails(x, which, 0);
        }
    }

    private static void setChangesNothingThatIsBroken() {
        LineBreaker x = new LineBreaker();
        x.box(5);
        x.wide(0, 9);
        x.breakUp();
        for (int which = 0; which < 10; which++) {
            x.set(which, GREATEST[which]);
        }
        x.wide(0, 77);
        x.around(0, 1, 2, 3, 4);
        x.around(2, 1, 2, 0, 4);
        Check.same("pass", x.pass(), 1);
        Check.same("nodes", x.nodes(), 1);
        Lines.same("still", x, 0, 3, 0, 4, 0, 2, 100);
    }

    /** Two lines of width 10, the first of which ends at a hyphen; then so much is left to stretch. */
    private static LineBreaker twoHyphens(int before) {
        LineBreaker x = new LineBreaker();
        x.wide(0, 10);
        x.set(0, -1);
        x.box(10);
        x.hyphen(before, 0, 0);
        x.box(10);
        x.hyphen(before, 0, 0);
        x.box(10);
        return x;
    }

    private static void eachSettingCounts() {
        LineBreaker x = twoHyphens(0);
        x.set(2, -7);
        x.set(3, 30);
        x.set(4, 9000);
        x.set(5, -3);
        x.set(6, 11);
        x.breakUp();
        Check.same("line penalty and hyphen's", x.total(0), 49 + 900);
        Check.same("double", x.total(1) - x.total(0), 49 + 900 - 3);
        Check.same("final", x.total(2) - x.total(1), 49 + 11);
        LineBreaker y = twoHyphens(NOTHING);
        y.set(3, 9000);
        y.set(4, -20);
        y.breakUp();
        Check.same("the empty one's", y.total(0), 100 - 400);
        LineBreaker z = looseLine();
        z.set(7, -123);
        z.set(0, 10000);
        z.breakUp();
        Check.same("adjacent", z.total(0), 110 * 110 - 123);
        z.set(0, 99);
        z.set(1, 100);
        z.breakUp();
        Check.same("FIRST", z.pass(), 2);
        z.set(1, 99);
        z.set(8, 1000);
        z.breakUp();
        Check.same("more stretch", z.pass(), 3);
        Check.same("badness with it", z.line(0, 3), 12);
        Check.same("total with it", z.total(0), 22 * 22);
        z.set(8, 0);
        z.breakUp();
        Check.same("TOLERANCE", z.total(0), 0);
    }

    /** Its first line has badness 100. */
    private static LineBreaker looseLine() {
        LineBreaker x = new LineBreaker();
        x.wide(0, 1000);
        x.box(0);
        x.glue(0, 1000, 0, 0);
        x.box(0);
        x.penalty(-10000);
        x.box(0);
        return x;
    }

    private static void wideFails(LineBreaker x, int i, int width) {
        Check.fails("wide(" + i + ", " + width + ")", ARGUMENT, () -> {
            x.wide(i, width);
            return 7;
        });
    }

    private static void boundsOfWidths() {
        LineBreaker x = new LineBreaker();
        wideFails(x, -1, 0);
        wideFails(x, 20, 0);
        wideFails(x, Integer.MAX_VALUE, 0);
        wideFails(x, Integer.MIN_VALUE, 0);
        wideFails(x, 0, SIZE + 1);
        wideFails(x, 0, NOTHING);
        x.breakUp();
        Check.same("nothing changed", x.line(0, 2), 0);
        x.wide(0, SIZE);
        x.breakUp();
        Check.same("greatest", x.line(0, 2), SIZE);
        x.wide(0, -SIZE);
        x.breakUp();
        Check.same("least", x.line(0, 2), -SIZE);
    }

    private static void widthsOfLines() {
        LineBreaker x = new LineBreaker();
        for (int i = 0; i < 25; i++) {
            x.box(0);
            x.penalty(-10000);
        }
        x.box(0);
        x.wide(0, 5);
        x.wide(3, 7);
        x.wide(19, 9);
        x.wide(10, 8);
        x.wide(18, 6);
        x.wide(19, 4);
        Check.same("lines", x.breakUp(), 26);
        for (int i = 0; i < 26; i++) {
            int due = i < 3 ? 5 : i < 10 ? 7 : i < 18 ? 8 : i < 19 ? 6 : 4;
            Check.same("width of line " + i, x.line(i, 2), due);
        }
    }

    private static void aroundFails(LineBreaker x, int which, int width, int stretch, int order, int shrink) {
        Check.fails("around", ARGUMENT, () -> {
            x.around(which, width, stretch, order, shrink);
            return 7;
        });
    }

    private static void boundsOfAround() {
        LineBreaker x = new LineBreaker();
        aroundFails(x, -1, 0, 0, 0, 0);
        aroundFails(x, 3, 0, 0, 0, 0);
        for (int which = 0; which < 3; which++) {
            aroundFails(x, which, SIZE + 1, 0, 0, 0);
            aroundFails(x, which, NOTHING, 0, 0, 0);
            aroundFails(x, which, 0, SIZE + 1, 0, 0);
            aroundFails(x, which, 0, -1, 0, 0);
            aroundFails(x, which, 0, 0, -1, 0);
            aroundFails(x, which, 0, 0, 4, 0);
            aroundFails(x, which, 0, 0, 0, SIZE + 1);
            aroundFails(x, which, 0, 0, 0, -1);
            x.around(which, -SIZE, SIZE, 3, SIZE);
            Check.fails("too much together", UnsupportedOperationException.class, x::breakUp);
            x.around(which, SIZE, 0, 0, 0);
        }
    }

    private static void whatStandsAround() {
        LineBreaker x = new LineBreaker();
        x.set(0, 10000);
        x.wide(0, 1000);
        x.box(100);
        x.penalty(-10000);
        x.box(200);
        x.around(0, 10, 500, 0, 0);
        x.around(1, -3, 0, 0, 9);
        x.around(2, 30, 0, 0, 0);
        Check.same("lines", x.breakUp(), 2);
        Check.same("left and right", x.line(0, 2), 1000 - 10 + 3 - 100);
        Check.same("left's stretch", x.line(0, 3), badness(893, 500));
        Check.same("the fill too", x.line(1, 2), 1000 - 10 + 3 - 200 - 30);
        Check.same("left's stretch", x.line(1, 3), badness(763, 500));
        x.around(2, 30, 200, 0, 0);
        x.breakUp();
        Check.same("the fill's stretch", x.line(1, 3), badness(763, 700));
        for (int which = 0; which < 3; which++) {
            for (int order = 1; order < 4; order++) {
                x.around(which, 0, 1, order, 0);
                x.breakUp();
                Check.same("endless in the last line", x.line(1, 3), 0);
                Check.same("endless in each", x.line(0, 3) == 0, which < 2);
                x.around(which, 0, 0, 2, 0);
                x.breakUp();
                Check.same("order without stretch", x.line(1, 3) > 0, true);
            }
        }
        x.wide(0, 90);
        x.around(0, 0, 0, 0, 3);
        x.around(1, 0, 0, 0, 7);
        x.breakUp();
        Check.same("shrink of left and right", x.line(0, 3), 100);
        x.around(1, 0, 0, 0, 6);
        x.breakUp();
        Check.same("overfull", x.line(0, 3), 10001);
    }

    private static int badness(int missing, int stretch) {
        int r = 297 * missing / stretch;
        return (r * r * r + 131072) / 262144;
    }
}
