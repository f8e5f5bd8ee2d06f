/** Promise 1: what a new object is, as far as calls can show it. */
public final class NewObjectTest {
    public static void main(String[] args) {
        emptyAndNotBroken();
        emptyParagraphBreaksIntoOneLine();
        linesAreNothingWide();
        firstIsHundred();
        toleranceIsTwoHundred();
        linePenaltyIsTen();
        hyphenPenaltiesAreFifty();
        doubleFinalAndAdjacent();
        noMoreStretch();
        fillIsEndless();
        constants();
        Check.done();
    }

    private static void emptyAndNotBroken() {
        LineBreaker x = new LineBreaker();
        Check.same("items", x.items(), 0);
        Check.same("pass", x.pass(), 0);
        Check.same("nodes", x.nodes(), 0);
        Check.fails("line", IndexOutOfBoundsException.class, () -> x.line(0, 0));
        Check.fails("total", IndexOutOfBoundsException.class, () -> x.total(0));
    }

    private static void emptyParagraphBreaksIntoOneLine() {
        LineBreaker x = new LineBreaker();
        Check.same("lines", x.breakUp(), 1);
        Check.same("pass", x.pass(), 1);
        Check.same("nodes", x.nodes(), 1);
        Lines.same("empty", x, 0, 2, 0, 0, 0, 2, 100);
    }

    private static void linesAreNothingWide() {
        LineBreaker x = new LineBreaker();
        x.box(7);
        x.penalty(-10000);
        x.box(3);
        Check.same("lines", x.breakUp(), 2);
        Check.same("shortfall 0", x.line(0, 2), -7);
        Check.same("shortfall 1", x.line(1, 2), -3);
    }

    /** With r = 297 the badness is 100, with r = 298 it is 101. */
    private static void firstIsHundred() {
        Check.same("badness 100", passWithStretch(1000, 1000), 1);
        Check.same("badness 101", passWithStretch(1000, 996), 2);
    }

    private static int passWithStretch(int missing, int stretch) {
        LineBreaker x = looseLine(missing, stretch);
        x.breakUp();
        return x.pass();
    }

    /** A line up to a forced place that misses so much and can stretch so much. */
    private static LineBreaker looseLine(int missing, int stretch) {
        LineBreaker x = new LineBreaker();
        x.wide(0, missing);
        x.box(0);
        x.glue(0, stretch, 0, 0);
        x.box(0);
        x.penalty(-10000);
        x.box(0);
        return x;
    }

    /** Beyond the tolerance the last pass saves the line, at no demerits. */
    private static void toleranceIsTwoHundred() {
        LineBreaker within = looseLine(1000, 794);
        within.breakUp();
        Check.same("badness within", within.line(0, 3), 200);
        Check.same("total within", within.total(0), 210 * 210 + 10000);
        LineBreaker beyond = looseLine(1000, 792);
        beyond.breakUp();
        Check.same("badness beyond", beyond.line(0, 3), 201);
        Check.same("total beyond", beyond.total(0), 0);
    }

    private static void linePenaltyIsTen() {
        LineBreaker x = looseLine(1000, 2000);
        x.breakUp();
        Check.same("badness", x.line(0, 3), 12);
        Check.same("total", x.total(0), 22 * 22);
    }

    private static void hyphenPenaltiesAreFifty() {
        for (int before = 0; before < 2; before++) {
            LineBreaker x = new LineBreaker();
            x.wide(0, 10);
            x.set(0, -1);
            x.box(10);
            x.hyphen(before == 0 ? LineBreaker.NOTHING : 0, LineBreaker.NOTHING, 0);
            x.box(10);
            Check.same("lines", x.breakUp(), 2);
            Check.same("hyphen's total", x.total(0), 100 + 2500);
            Check.same("final demerits", x.total(1), 100 + 2500 + 100 + 5000);
        }
    }

    private static void doubleFinalAndAdjacent() {
        LineBreaker x = new LineBreaker();
        x.wide(0, 10);
        x.set(0, -1);
        x.box(10);
        x.hyphen(0, 0, 0);
        x.box(10);
        x.hyphen(0, 0, 0);
        x.box(10);
        Check.same("lines", x.breakUp(), 3);
        Check.same("double", x.total(1) - x.total(0), 100 + 2500 + 10000);
        Check.same("final", x.total(2) - x.total(1), 100 + 5000);
        LineBreaker y = looseLine(1000, 1000);
        y.set(0, 10000);
        y.breakUp();
        Check.same("very loose", y.line(0, 4), 0);
        Check.same("adjacent", y.total(0), 110 * 110 + 10000);
    }

    private static void noMoreStretch() {
        LineBreaker x = looseLine(1000, 1);
        x.breakUp();
        Check.same("no third pass", x.pass(), 2);
    }

    private static void fillIsEndless() {
        LineBreaker x = new LineBreaker();
        x.wide(0, 1000000);
        x.breakUp();
        Check.same("shortfall: the fill is 0 wide", x.line(0, 2), 1000000);
        Check.same("badness", x.line(0, 3), 0);
        x.glue(0, 1073741823 - 65536, 0, 0);
        Check.same("65536 and the rest are a size", x.breakUp(), 1);
        x.keep(0);
        x.glue(0, 1073741823 - 65535, 0, 0);
        Check.fails("more is none", UnsupportedOperationException.class, x::breakUp);
    }

    private static void constants() {
        Check.same("NOTHING", LineBreaker.NOTHING, -1073741824);
        Check.same("FULL", LineBreaker.FULL, -2);
    }
}
