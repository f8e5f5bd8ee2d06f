/** Terms, "PASSES", "CHOSEN" and "LOOSENESS": each sentence that names a boundary. */
public final class TermsPassesTest {
    private static final int SIZE = Build.SIZE;

    public static void main(String[] args) {
        firstIfNotBelow0();
        firstWithoutHyphens();
        thenTolerance();
        thirdIfMoreStretch();
        moreStretchInEachLine();
        moreStretchIsOfOrder0();
        aPassFails();
        leastTotal();
        fewestLines();
        leastFit();
        wishedLines();
        wishedBelowOne();
        nearestToTheWished();
        leastTotalOfThatNumber();
        leastFitOfThatNumber();
        notTheLastFails();
        Check.done();
    }

    /** Terms, PASSES: "first one with the tolerance of FIRST .., if that is not below 0". */
    private static void firstIfNotBelow0() {
        for (int first : new int[] {-1, 0, 1}) {
            LineBreaker x = Build.made("b");
            x.set(0, first);
            x.breakUp();
            Check.same("PASSES, FIRST " + first, x.pass(), first < 0 ? 2 : 1);
        }
    }

    /** Terms, PASSES: "and without hyphens as places". */
    private static void firstWithoutHyphens() {
        LineBreaker x = new LineBreaker();
        x.wide(0, 10);
        x.box(10);
        x.hyphen(0, 0, 0);
        Check.same("PASSES, no hyphen is needed", x.breakUp(), 1);
        Check.same("PASSES, no hyphen is needed", x.pass(), 1);
        x.box(1);
        Check.same("PASSES, a hyphen is needed", x.breakUp(), 2);
        Check.same("PASSES, a hyphen is needed", x.pass(), 2);
        x.set(0, 10000);
        x.breakUp();
        Check.same("PASSES, with any FIRST", x.pass(), 2);
    }

    /** Terms, PASSES: "then one with TOLERANCE", be that less than FIRST too. */
    private static void thenTolerance() {
        LineBreaker x = Build.loose(297, 297);
        x.set(0, 99);
        for (int tolerance : new int[] {99, 100, 101}) {
            x.set(1, tolerance);
            x.breakUp();
            Check.same("PASSES, TOLERANCE " + tolerance, x.pass(), 2);
            Check.same("PASSES, TOLERANCE " + tolerance, x.total(0), tolerance < 100 ? 0 : 22100);
        }
        x.set(0, 100);
        x.set(1, 0);
        x.breakUp();
        Check.same("PASSES, TOLERANCE is not asked in the first", x.total(0), 22100);
        LineBreaker y = new LineBreaker();
        y.set(0, 100);
        y.set(1, 0);
        y.wide(0, 297);
        Build.forcedLine(y, 0, 297, 0);
        y.box(300);
        y.breakUp();
        Check.same("PASSES, FIRST is not asked in the second", y.total(0), 0);
    }

    /** Terms, PASSES: "then, if MORE STRETCH is above 0"; "The one that comes last is the last pass." */
    private static void thirdIfMoreStretch() {
        for (int first : new int[] {-1, 0}) {
            for (int more : new int[] {0, 1, 2}) {
                LineBreaker x = Build.made("b");
                x.set(0, first);
                x.set(8, more);
                x.wide(0, -1);
                x.breakUp();
                Check.same("PASSES, MORE STRETCH " + more, x.pass(), more == 0 ? 2 : 3);
            }
        }
    }

    /** Terms, PASSES: "so much more stretch of order 0 in each line", and only in that pass. */
    private static void moreStretchInEachLine() {
        for (int more : new int[] {198, 197, 196}) {
            LineBreaker x = new LineBreaker();
            x.set(1, 100);
            x.wide(0, 297);
            x.wide(2, 0);
            for (int i = 0; i < 2; i++) {
                Build.forcedLine(x, 0, 100, 0);
            }
            x.box(0);
            x.set(8, more);
            x.breakUp();
            Check.same("PASSES, only the third can", x.pass(), 3);
            for (int i = 0; i < 2; i++) {
                Check.same("PASSES, " + more + " in line " + i, x.line(i, 3), more == 198 ? 99 : more == 197 ? 100 : 101);
            }
            Check.same("PASSES, TOLERANCE in the third", x.total(0), more >= 197 ? fitAndSum(x) : 0);
            x.set(1, 10000);
            x.breakUp();
            Check.same("PASSES, none in the second", x.line(0, 3), 2617);
        }
    }

    private static long fitAndSum(LineBreaker x) {
        long sum = 10 + x.line(0, 3);
        return sum * sum + (x.line(0, 4) == 0 ? 10000 : 0);
    }

    /** Terms, PASSES: more stretch is of order 0: it neither shrinks nor outdoes endless stretch. */
    private static void moreStretchIsOfOrder0() {
        LineBreaker x = new LineBreaker();
        x.set(0, -1);
        x.set(1, 0);
        x.set(8, SIZE / 2);
        x.wide(0, -1);
        x.wide(1, 1);
        Build.append(x, "bfb");
        x.breakUp();
        Check.same("PASSES, it is no shrink", x.line(0, 3), 10001);
        Check.same("PASSES, third", x.pass(), 3);
        LineBreaker y = Build.loose(SIZE, 0);
        y.set(1, 0);
        y.set(8, 1);
        y.breakUp();
        Check.same("PASSES, it is not endless", y.line(0, 3), 10000);
    }

    /** Terms, PASSES: "A pass FAILS if there are no nodes at n": only the last line need be wrong. */
    private static void aPassFails() {
        for (int over = -1; over < 2; over++) {
            LineBreaker x = new LineBreaker();
            x.wide(0, 10);
            x.box(10);
            x.penalty(-10000);
            x.box(10 + over);
            x.breakUp();
            Check.same("FAILS, " + over + " too much in the last line", x.pass(), over > 0 ? 2 : 1);
            Check.same("FAILS, a node at each place all the same", x.nodes(), 2);
        }
    }

    /** One place with such a penalty: it is worth a line more, if it is below -10. */
    private static LineBreaker worth(int penalty) {
        LineBreaker x = new LineBreaker();
        x.box(0);
        x.penalty(penalty);
        x.box(0);
        return x;
    }

    /** Terms, CHOSEN: "if LOOSENESS is 0 that with the least total". */
    private static void leastTotal() {
        Check.same("CHOSEN, two lines cost one less", worth(-11).breakUp(), 2);
        Check.same("CHOSEN, two lines cost more", worth(-9).breakUp(), 1);
        LineBreaker x = worth(-11);
        x.breakUp();
        Check.same("CHOSEN, total", x.total(1), 200 - 121);
    }

    /** Terms, CHOSEN: "of several, the fewest lines". */
    private static void fewestLines() {
        Check.same("CHOSEN, two lines cost the same", worth(-10).breakUp(), 1);
        for (int l = -1; l < 2; l++) {
            LineBreaker x = Build.made("bpbpbpb");
            x.set(2, l);
            Check.same("CHOSEN, line penalty " + l, x.breakUp(), 1);
        }
    }

    /**
     * Two ways to n with two lines and the same total: with a line penalty of -50 badness 0 and 100
     * cost the same. With 10 the last line has fit 3 behind place 1 and fit 2 behind place 5, with
     * -10 it has 0 and 2.
     */
    private static LineBreaker twoFitsAtTheEnd(LineBreaker x, int more) {
        x.around(2, 0, 0, 0, 0);
        x.set(2, -50);
        x.set(7, 0);
        x.wide(0, 100);
        x.box(100);
        x.penalty(0);
        x.box(0);
        x.penalty(10000);
        x.glue(more, 10, 0, 10);
        x.penalty(0);
        x.box(100);
        return x;
    }

    /** Terms, CHOSEN: "then the least fit". */
    private static void leastFit() {
        LineBreaker x = twoFitsAtTheEnd(new LineBreaker(), 10);
        Check.same("CHOSEN, fits 2 and 3", x.breakUp(), 2);
        Lines.same("CHOSEN, the least fit", x, 0, 5, 0, -10, 100, 3, 2500);
        Lines.same("CHOSEN, the least fit", x, 1, 9, 6, 0, 0, 2, 5000);
        LineBreaker y = twoFitsAtTheEnd(new LineBreaker(), -10);
        Check.same("CHOSEN, fits 2 and 0", y.breakUp(), 2);
        Lines.same("CHOSEN, the least fit", y, 0, 1, 0, 0, 0, 2, 2500);
        Lines.same("CHOSEN, the least fit", y, 1, 9, 2, 10, 100, 0, 5000);
    }

    /** Terms, CHOSEN: "the lines WISHED are its own and the looseness more", up to as many as there can be. */
    private static void wishedLines() {
        for (int looseness = -5; looseness <= 5; looseness++) {
            LineBreaker x = Build.made("bpbpb");
            x.penalty(-20);
            x.penalty(-20);
            x.box(0);
            x.set(9, looseness);
            int wished = 3 + looseness;
            Check.same("WISHED, 3 and " + looseness, x.breakUp(), Math.max(1, Math.min(5, wished)));
            Check.same("WISHED, 3 and " + looseness, x.pass(), wished >= 1 && wished <= 5 ? 1 : 2);
        }
    }

    /** Terms, CHOSEN: the wished number may be 0 or below it: then the fewest lines are nearest. */
    private static void wishedBelowOne() {
        for (int looseness : new int[] {-1, -2, -100}) {
            LineBreaker x = new LineBreaker();
            x.set(9, looseness);
            Check.same("WISHED, one line and " + looseness, x.breakUp(), 1);
            Check.same("WISHED, by the last pass", x.pass(), 2);
            x.set(8, 1);
            x.breakUp();
            Check.same("WISHED, by the last pass", x.pass(), 3);
        }
    }

    /** It fits in one line and in four, but not in two or three: the kern is only there in one line. */
    private static LineBreaker oneOrFour(int penalty) {
        LineBreaker x = new LineBreaker();
        x.wide(0, 30);
        x.wide(1, 10);
        x.around(2, 0, 0, 0, 0);
        x.box(30);
        x.penalty(penalty);
        x.kern(-30, true);
        for (int i = 0; i < 3; i++) {
            x.box(10);
            x.penalty(i < 2 ? penalty : 10000);
        }
        return x;
    }

    /**
     * Terms, CHOSEN: "of all numbers of lines from BEST's to the wished one, for which there are
     * nodes at n, the one nearest to the wished one": none beyond it, however near.
     */
    private static void nearestToTheWished() {
        int[] looseness = {-1, 0, 1, 2, 3, 4, 100};
        int[] dueFromOne = {1, 1, 1, 1, 4, 4, 4};
        for (int i = 0; i < looseness.length; i++) {
            LineBreaker x = oneOrFour(0);
            x.set(9, looseness[i]);
            Check.same("NEAREST, 1 and " + looseness[i], x.breakUp(), dueFromOne[i]);
            Check.same("NEAREST, 1 and " + looseness[i], x.pass(), looseness[i] == 0 || looseness[i] == 3 ? 1 : 2);
            LineBreaker y = oneOrFour(-100);
            y.set(9, -looseness[i]);
            Check.same("NEAREST, 4 and " + -looseness[i], y.breakUp(), dueFromOne[i] == 1 ? 4 : 1);
            Check.same("NEAREST, 4 and " + -looseness[i], y.pass(), looseness[i] == 0 || looseness[i] == 3 ? 1 : 2);
        }
    }

    /** The same ways to n, behind one line, or two that cost more. */
    private static LineBreaker threeOrFour(int more) {
        LineBreaker x = new LineBreaker();
        x.box(50);
        x.penalty(10000);
        x.glue(0, 50, 0, 0);
        x.box(0);
        x.penalty(0);
        Build.forcedLine(x, 50, 50, 0);
        return twoFitsAtTheEnd(x, more);
    }

    /** Terms, CHOSEN: "of the nodes with that number the one with the least total": one less, the same, one more. */
    private static void leastTotalOfThatNumber() {
        for (int adjacent = -1; adjacent < 2; adjacent++) {
            for (int looseness : new int[] {1, 2, 100}) {
                LineBreaker x = threeOrFour(-10);
                x.set(7, adjacent);
                x.set(9, looseness);
                Check.same("LEAST TOTAL, four lines", x.breakUp(), 4);
                Check.same("LEAST TOTAL, looseness " + looseness, x.pass(), looseness == 1 ? 1 : 2);
                Check.same("LEAST TOTAL", x.total(3), 10000 + adjacent + Math.min(2 * adjacent, adjacent));
                Check.same("LEAST TOTAL, by way of", x.line(2, 0), adjacent > 0 ? 15 : 11);
            }
        }
        for (int p : new int[] {19, 20, 21}) {
            LineBreaker x = new LineBreaker();
            x.box(0);
            x.penalty(20);
            x.box(0);
            x.penalty(p);
            x.box(0);
            x.set(9, 1);
            x.breakUp();
            Check.same("LEAST TOTAL, 20 or " + p, x.total(1), 200 + Math.min(400, p * p));
        }
    }

    /** Terms, CHOSEN: "then the least fit", also of a number that is not BEST's. */
    private static void leastFitOfThatNumber() {
        for (int more : new int[] {10, -10}) {
            LineBreaker x = threeOrFour(more);
            Check.same("LEAST FIT, the best has three lines", x.breakUp(), 3);
            x.set(9, 1);
            Check.same("LEAST FIT, four", x.breakUp(), 4);
            Check.same("LEAST FIT, four", x.pass(), 1);
            Check.same("LEAST FIT, line 0", x.line(0, 0), 4);
            Check.same("LEAST FIT, line 2", x.line(2, 0), more > 0 ? 15 : 11);
            Check.same("LEAST FIT, line 3", x.line(3, 4), more > 0 ? 2 : 0);
            Check.same("LEAST FIT, all the same", x.total(3), 10000);
        }
    }

    /** Terms, CHOSEN: "A pass that is not the last one fails too, if the chosen one has not as many lines". */
    private static void notTheLastFails() {
        for (int looseness : new int[] {0, 1, 2, 3, 4}) {
            LineBreaker x = Build.made("bpb0b");
            x.set(9, looseness);
            x.breakUp();
            Check.same("WISHED, " + looseness + " more", x.pass(), looseness < 2 ? 1 : 2);
            Check.same("WISHED, " + looseness + " more, hyphens help", x.breakUp(), 1 + Math.min(looseness, 2));
            x.set(8, 1);
            x.breakUp();
            Check.same("WISHED, " + looseness + " more", x.pass(), looseness < 2 ? 1 : looseness == 2 ? 2 : 3);
        }
    }
}
