/** Promises 9 to 11, each sentence that names a boundary: at it, just inside and just outside. */
public final class Promises9To11Test {
    private static final int SIZE = Build.SIZE;
    private static final int NOTHING = Build.NOTHING;
    private static final int[] LEAST = {-1, 0, -10000, -10000, -10000, -1000000, -1000000, -1000000, 0, -100};
    private static final int[] GREATEST =
        {10000, 10000, 10000, 10000, 10000, 1000000, 1000000, 1000000, SIZE, 100};
    private static final int[] NO_SIZES = {SIZE + 1, -SIZE - 1, Integer.MAX_VALUE, Integer.MIN_VALUE};
    private static final int[] NOT_FROM_0 = {-1, -SIZE, NOTHING, Integer.MIN_VALUE, SIZE + 1, Integer.MAX_VALUE};

    public static void main(String[] args) {
        p9WhichAndBounds();
        p9FromNowOn();
        p9First();
        p9Tolerance();
        p9LinePenalty();
        p9HyphensPenalty();
        p9DoubleFinalAdjacent();
        p9MoreStretch();
        p9Looseness();
        p10Lines();
        p10Widths();
        p10ThoseBeforeItAsTheyWere();
        p11Which();
        p11AsForGlue();
        p11OneByOne();
        Check.done();
    }

    /** Promise 9: "IllegalArgumentException for another which, or a value that is not within bounds". */
    private static void p9WhichAndBounds() {
        for (int which = 0; which < 10; which++) {
            int w = which;
            int[] outside = {LEAST[w] - 1, GREATEST[w] + 1, Integer.MIN_VALUE, Integer.MAX_VALUE};
            for (int value : outside) {
                Refused.byArgument("P9 set(" + w + ", " + value + ")", Build::broken, x -> x.set(w, value));
            }
            for (int value : new int[] {LEAST[w], LEAST[w] + 1, 0, GREATEST[w] - 1, GREATEST[w]}) {
                LineBreaker x = Build.broken();
                String due = Trace.ofLines(x);
                x.set(w, value);
                Check.same("P9 set(" + w + ", " + value + ") leaves it broken", Trace.ofLines(x), due);
            }
        }
        for (int which : new int[] {-1, 10, 11, Integer.MIN_VALUE, Integer.MAX_VALUE}) {
            Refused.byArgument("P9 set(" + which + ", 3)", Build::broken, x -> x.set(which, 3));
        }
    }

    /** Promise 9: "From now on": what is broken stays, and the next breakUp has it. */
    private static void p9FromNowOn() {
        LineBreaker x = Build.loose(297, 297);
        x.breakUp();
        x.set(2, 20);
        Check.same("P9 before", x.total(0), 110 * 110 + 10000);
        x.breakUp();
        Check.same("P9 from now on", x.total(0), 120 * 120 + 10000);
        x.keep(0);
        Build.append(x, "b");
        x.breakUp();
        Check.same("P9 keep leaves it", x.total(0), 400);
    }

    private static int passWith(int which, int value, int missing, int stretch) {
        LineBreaker x = Build.loose(missing, stretch);
        x.set(which, value);
        x.breakUp();
        return x.pass();
    }

    /** Promise 9: "0 FIRST (-1 .. 10000)": -1 is no pass, 0 one for badness 0, 10000 one for all but overfull. */
    private static void p9First() {
        Check.same("P9 FIRST -1, badness 0", passWith(0, -1, 50, 297), 2);
        Check.same("P9 FIRST 0, badness 0", passWith(0, 0, 50, 297), 1);
        Check.same("P9 FIRST 0, badness 1", passWith(0, 0, 51, 297), 2);
        Check.same("P9 FIRST 1, badness 1", passWith(0, 1, 51, 297), 1);
        Check.same("P9 FIRST 8188, badness 8189", passWith(0, 8188, 1290, 297), 2);
        Check.same("P9 FIRST 8189, badness 8189", passWith(0, 8189, 1290, 297), 1);
        Check.same("P9 FIRST 9999, badness 10000", passWith(0, 9999, 1291, 297), 2);
        Check.same("P9 FIRST 10000, badness 10000", passWith(0, 10000, 1291, 297), 1);
        LineBreaker x = new LineBreaker();
        x.set(0, 10000);
        x.box(1);
        x.breakUp();
        Check.same("P9 FIRST 10000, overfull", x.pass(), 2);
    }

    /** Promise 9: "1 TOLERANCE (0 .. 10000)": a line beyond it has no demerits, in the last pass. */
    private static void p9Tolerance() {
        sameTolerance(0, 50, 0, 10 * 10);
        sameTolerance(0, 51, 1, 0);
        sameTolerance(1, 51, 1, 11 * 11);
        sameTolerance(8188, 1290, 8189, 0);
        sameTolerance(8189, 1290, 8189, 8199L * 8199L + 10000);
        sameTolerance(9999, 1291, 10000, 0);
        sameTolerance(10000, 1291, 10000, 100000000L + 10000);
        LineBreaker x = new LineBreaker();
        x.set(1, 10000);
        x.box(1);
        x.breakUp();
        Check.same("P9 TOLERANCE 10000, overfull", x.line(0, 3), 10001);
        Check.same("P9 TOLERANCE 10000, overfull", x.total(0), 0);
    }

    private static void sameTolerance(int tolerance, int missing, int badness, long total) {
        LineBreaker x = Build.loose(missing, 297);
        x.set(0, -1);
        x.set(1, tolerance);
        x.breakUp();
        Check.same("P9 TOLERANCE " + tolerance + ", badness", x.line(0, 3), badness);
        Check.same("P9 TOLERANCE " + tolerance + ", badness " + badness, x.total(0), total);
    }

    /** Promise 9: "2 the line penalty" (-10000 .. 10000). */
    private static void p9LinePenalty() {
        int[] values = {-10000, -9999, -1, 0, 1, 9999, 10000};
        for (int l : values) {
            LineBreaker x = Build.made("b");
            x.set(2, l);
            x.breakUp();
            Check.same("P9 line penalty " + l, x.total(0), (long) l * l);
        }
    }

    /** Two lines, the first of which ends at a hyphen, as the box behind it would be too much. */
    private static LineBreaker atHyphen(int before) {
        LineBreaker x = new LineBreaker();
        x.set(0, -1);
        x.set(6, 0);
        x.wide(0, 10);
        x.box(10);
        x.hyphen(before, 0, 0);
        x.box(10);
        return x;
    }

    /** Promise 9: "3 the hyphen's, 4 the empty one's (all three -10000 .. 10000)". */
    private static void p9HyphensPenalty() {
        for (int which = 3; which < 5; which++) {
            int before = which == 3 ? 0 : NOTHING;
            for (int p : new int[] {-10000, -9999, -1, 0, 1, 9999}) {
                LineBreaker x = atHyphen(before);
                x.set(which, p);
                x.set(7 - which, 77);
                Check.same("P9 hyphen with " + p, x.breakUp(), 2);
                long due = p == -10000 ? 0 : (long) p * Math.abs(p);
                Check.same("P9 hyphen with " + p, x.total(0), 100 + due);
            }
            LineBreaker x = atHyphen(before);
            x.set(which, 10000);
            x.set(7 - which, 77);
            Check.same("P9 hyphen with 10000 is no place", x.breakUp(), 1);
            Check.same("P9 hyphen with 10000 is no place", x.line(0, 2), -10);
        }
    }

    /** Promise 9: "5 double, 6 final, 7 adjacent (-1000000 .. 1000000)". */
    private static void p9DoubleFinalAdjacent() {
        for (int d : new int[] {-1000000, -999999, -1, 0, 1, 999999, 1000000}) {
            LineBreaker x = new LineBreaker();
            x.set(0, -1);
            x.set(5, d);
            x.set(6, 0);
            x.wide(0, 10);
            x.box(10);
            x.hyphen(0, 0, 0);
            x.box(10);
            x.hyphen(0, 0, 0);
            x.box(10);
            x.breakUp();
            Check.same("P9 double " + d, x.total(1) - x.total(0), 100 + 2500 + d);
            Check.same("P9 no final ones", x.total(2) - x.total(1), 100);
            LineBreaker y = atHyphen(0);
            y.set(6, d);
            y.breakUp();
            Check.same("P9 final " + d, y.total(1) - y.total(0), 100 + d);
            LineBreaker z = Build.loose(297, 297);
            z.set(7, d);
            z.breakUp();
            Check.same("P9 adjacent " + d, z.total(0), 110 * 110 + d);
        }
    }

    /** Promise 9: "8 more stretch (a size, not below 0)". */
    private static void p9MoreStretch() {
        for (int more : new int[] {0, 1, 2, 3, SIZE - 65536}) {
            LineBreaker x = Build.loose(1000, 0);
            x.set(1, 10000);
            x.set(8, more);
            x.set(9, 1);
            x.breakUp();
            Check.same("P9 more stretch " + more, x.pass(), more == 0 ? 2 : 3);
            int due = more == SIZE - 65536 ? 0 : 10000;
            Check.same("P9 more stretch " + more, x.line(0, 3), due);
        }
        for (int more : new int[] {SIZE - 65535, SIZE - 1, SIZE}) {
            LineBreaker x = Build.made("b");
            x.set(8, more);
            Check.fails("P9 more stretch " + more + " is set", UnsupportedOperationException.class, x::breakUp);
        }
        LineBreaker x = new LineBreaker();
        x.around(2, 0, 0, 0, 0);
        x.set(8, SIZE);
        Check.same("P9 more stretch and nothing else", x.breakUp(), 1);
    }

    /** Promise 9: "9 looseness (-100 .. 100)", with 1 to 112 lines, of which the best has so many. */
    private static void p9Looseness() {
        for (int looseness : new int[] {0, 1, 99, 100}) {
            LineBreaker x = places(111, 0);
            x.set(9, looseness);
            Check.same("P9 looseness " + looseness, x.breakUp(), 1 + looseness);
            Check.same("P9 just so many", x.pass(), 1);
        }
        for (int looseness : new int[] {-1, -99, -100}) {
            LineBreaker x = places(111, -20);
            x.set(9, looseness);
            Check.same("P9 looseness " + looseness, x.breakUp(), 112 + looseness);
            Check.same("P9 just so many", x.pass(), 1);
        }
    }

    private static LineBreaker places(int count, int penalty) {
        LineBreaker x = new LineBreaker();
        for (int i = 0; i < count; i++) {
            x.penalty(penalty);
        }
        return x;
    }

    /** Promise 10: "IllegalArgumentException when i is not 0 .. 19". */
    private static void p10Lines() {
        for (int i : new int[] {-1, 20, 21, Integer.MIN_VALUE, Integer.MAX_VALUE}) {
            Refused.byArgument("P10 wide(" + i + ", 7)", Build::broken, x -> x.wide(i, 7));
        }
        for (int i : new int[] {0, 1, 18, 19}) {
            sameWidths("P10 wide(" + i + ", 7)", i, 7);
        }
    }

    /** Promise 10: "or width no size". */
    private static void p10Widths() {
        for (int width : NO_SIZES) {
            Refused.byArgument("P10 wide(0, " + width + ")", Build::broken, x -> x.wide(0, width));
            Refused.byArgument("P10 wide(19, " + width + ")", Build::broken, x -> x.wide(19, width));
        }
        for (int width : new int[] {-SIZE, -SIZE + 1, -1, 0, 1, SIZE - 1, SIZE}) {
            sameWidths("P10 wide(0, " + width + ")", 0, width);
        }
    }

    /** Promise 10: "Line i (0 .. 19) should be so wide, and all behind it; those before it as they were". */
    private static void p10ThoseBeforeItAsTheyWere() {
        for (int i = 0; i < 20; i++) {
            sameWidths("P10 from line " + i, i, 50 + i);
        }
    }

    /** Lines 0 to 24; 5 was the width of all before. */
    private static void sameWidths(String what, int i, int width) {
        LineBreaker x = new LineBreaker();
        for (int line = 0; line < 24; line++) {
            Build.append(x, "bf");
        }
        x.wide(0, 5);
        x.breakUp();
        x.wide(i, width);
        Check.same(what + ", still broken", x.line(24, 2), 5);
        Check.same(what, x.breakUp(), 25);
        for (int line = 0; line < 24; line++) {
            Check.same(what + ", line " + line, x.line(line, 2), line < i ? 5 : width);
        }
    }

    /** Promise 11: "IllegalArgumentException when which is not 0 .. 2". */
    private static void p11Which() {
        for (int which : new int[] {-1, 3, 4, Integer.MIN_VALUE, Integer.MAX_VALUE}) {
            Refused.byArgument("P11 around(" + which + ")", Build::broken, x -> x.around(which, 7, 8, 1, 9));
        }
    }

    /** Promise 11: "or as for glue". */
    private static void p11AsForGlue() {
        for (int which = 0; which < 3; which++) {
            int w = which;
            for (int wrong : NO_SIZES) {
                Refused.byArgument("P11 width " + wrong, Build::broken, x -> x.around(w, wrong, 7, 0, 8));
            }
            for (int wrong : NOT_FROM_0) {
                Refused.byArgument("P11 stretch " + wrong, Build::broken, x -> x.around(w, 9, wrong, 0, 8));
                Refused.byArgument("P11 shrink " + wrong, Build::broken, x -> x.around(w, 9, 7, 0, wrong));
            }
            for (int wrong : new int[] {-1, 4, Integer.MIN_VALUE, Integer.MAX_VALUE}) {
                Refused.byArgument("P11 order " + wrong, Build::broken, x -> x.around(w, 9, 7, wrong, 8));
            }
            for (int width : new int[] {-SIZE, -SIZE + 1, 0, SIZE - 1, SIZE}) {
                LineBreaker x = new LineBreaker();
                x.around(w, width, 0, 3, 0);
                Check.same("P11 breaks", x.breakUp(), 1);
                Check.same("P11 width " + width, x.line(0, 2), -width);
            }
            p11Give(w);
        }
    }

    /** Stretch and shrink at their bounds: nothing, one, and as much as there can be. */
    private static void p11Give(int which) {
        for (int give : new int[] {0, 1, 2, SIZE - 1, SIZE}) {
            int due = give == 0 ? 10000 : give == 1 ? 100 : give == 2 ? 12 : 0;
            LineBreaker x = new LineBreaker();
            x.around(2, 0, 0, 0, 0);
            x.around(which, 0, give, 0, 0);
            x.wide(0, 1);
            x.breakUp();
            Check.same("P11 stretch " + give, x.line(0, 3), due);
            LineBreaker y = new LineBreaker();
            y.around(which, 0, 0, 0, give);
            y.wide(0, -1);
            y.breakUp();
            Check.same("P11 shrink " + give, y.line(0, 3), give == 0 ? 10001 : due);
        }
        for (int order = 0; order < 4; order++) {
            LineBreaker x = new LineBreaker();
            x.around(2, 0, 0, 0, 0);
            x.around(which, 0, 1, order, 0);
            x.wide(0, 1000);
            x.breakUp();
            Check.same("P11 order " + order, x.line(0, 3), order == 0 ? 10000 : 0);
            x.wide(0, 1);
            x.around(which, 0, 0, order, 0);
            x.breakUp();
            Check.same("P11 order " + order + " without stretch", x.line(0, 3), 10000);
        }
    }

    /** Promise 11: "Left (which = 0), right (1), or the fill (2) is this glue": the others stay. */
    private static void p11OneByOne() {
        for (int which = 0; which < 3; which++) {
            LineBreaker x = Build.made("bfb");
            x.around(0, 1, 0, 0, 0);
            x.around(1, 10, 0, 0, 0);
            x.around(2, 100, 0, 0, 0);
            x.breakUp();
            int[] widths = {1, 10, 100};
            x.around(which, 5000, 0, 0, 0);
            Check.same("P11 still broken", x.line(1, 2), -111);
            widths[which] = 5000;
            x.breakUp();
            Check.same("P11 left and right in each line", x.line(0, 2), -widths[0] - widths[1]);
            Check.same("P11 the fill in the last", x.line(1, 2), -widths[0] - widths[1] - widths[2]);
        }
    }
}
