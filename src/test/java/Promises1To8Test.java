/** Promises 1 to 8, each sentence that names a boundary: at it, just inside and just outside. */
public final class Promises1To8Test {
    private static final int SIZE = Build.SIZE;
    private static final int NOTHING = Build.NOTHING;
    private static final int[] NO_SIZES = {SIZE + 1, -SIZE - 1, Integer.MAX_VALUE, Integer.MIN_VALUE};
    private static final int[] SIZES = {-SIZE, -SIZE + 1, -1, 0, 1, SIZE - 1, SIZE};
    private static final int[] NOT_FROM_0 = {-1, -SIZE, NOTHING, Integer.MIN_VALUE, SIZE + 1, Integer.MAX_VALUE};

    public static void main(String[] args) {
        p1First();
        p1Tolerance();
        p1PenaltiesAndDemerits();
        p1NothingAround();
        p1Fill();
        p1NotBroken();
        p2NoSize();
        p2FourHundredItems();
        p2NotBrokenAnyMore();
        p2OtherCallsLeaveItBroken();
        p3Sizes();
        p3Orders();
        p3Replaced();
        p3FourHundredItems();
        p4NoSize();
        p4Explicit();
        p4FourHundredItems();
        p5Bounds();
        p5Replaced();
        p5FourHundredItems();
        p6SizesAndNothing();
        p6HowManyReplaced();
        p6Replaced();
        p6FourHundredItems();
        firstNamedException();
        p7Bounds();
        p7NotBroken();
        p7OfReplacedItems();
        p7NothingOfTheOthers();
        p8Items();
        Check.done();
    }

    /** Promise 1: "FIRST 100": badness 99 and 100 do for the first pass, 101 does not. */
    private static void p1First() {
        sameLoose("FIRST, 99", 296, 297, 99, 1, 109 * 109);
        sameLoose("FIRST, 100", 297, 297, 100, 1, 110 * 110 + 10000);
        sameLoose("FIRST, 101", 298, 297, 101, 2, 111 * 111 + 10000);
    }

    /** Promise 1: "TOLERANCE 200": what is beyond it comes without demerits, by the last pass's rule. */
    private static void p1Tolerance() {
        sameLoose("TOLERANCE, 198", 373, 297, 198, 2, 208 * 208 + 10000);
        sameLoose("TOLERANCE, 200", 374, 297, 200, 2, 210 * 210 + 10000);
        sameLoose("TOLERANCE, 201", 375, 297, 201, 2, 0);
    }

    private static void sameLoose(String what, int missing, int stretch, int badness, int pass, long total) {
        LineBreaker x = Build.loose(missing, stretch);
        x.breakUp();
        Check.same("P1 " + what + ", badness", x.line(0, 3), badness);
        Check.same("P1 " + what + ", pass", x.pass(), pass);
        Check.same("P1 " + what + ", total", x.total(0), total);
    }

    /** Promise 1: "line penalty 10, hyphen's and empty one's 50, double 10000, final 5000". */
    private static void p1PenaltiesAndDemerits() {
        for (int before : new int[] {0, NOTHING}) {
            LineBreaker x = new LineBreaker();
            x.wide(0, 10);
            x.box(10);
            x.hyphen(before, 0, 0);
            x.box(10);
            x.hyphen(before, 0, 0);
            x.box(10);
            Check.same("P1 lines", x.breakUp(), 3);
            Check.same("P1 the line's and the hyphen's", x.total(0), 100 + 2500);
            Check.same("P1 double", x.total(1) - x.total(0), 100 + 2500 + 10000);
            Check.same("P1 final", x.total(2) - x.total(1), 100 + 5000);
        }
    }

    /** Promise 1: "left and right nothing at all": all sizes are left to the items. */
    private static void p1NothingAround() {
        LineBreaker x = new LineBreaker();
        x.box(SIZE);
        Check.same("P1 no width around", x.breakUp(), 1);
        Check.same("P1 no width around", x.line(0, 2), -SIZE);
        x.keep(0);
        x.penalty(10000);
        x.glue(0, 0, 0, SIZE);
        x.box(1);
        x.breakUp();
        Check.same("P1 no shrink around", x.line(0, 3), 0);
        x.penalty(-10000);
        x.box(1);
        x.breakUp();
        Check.same("P1 no shrink in a line of its own", x.line(1, 3), 10001);
        LineBreaker y = new LineBreaker();
        y.wide(0, 1);
        Build.append(y, "bfb");
        y.breakUp();
        Check.same("P1 no stretch around", y.line(0, 3), 10000);
        Check.same("P1 no stretch around", y.line(0, 2), 1);
    }

    /** Promise 1: "the fill 0 wide with a stretch of 65536 of order 1". */
    private static void p1Fill() {
        for (int more = -1; more < 2; more++) {
            LineBreaker x = new LineBreaker();
            x.wide(0, SIZE);
            x.glue(0, SIZE - 65536 + more, 0, 0);
            x.box(0);
            Check.same("P1 the fill's 65536 and the rest", Check.outcome(x::breakUp),
                    more > 0 ? "throws.UnsupportedOperationException" : "1");
            if (more <= 0) {
                Lines.same("P1 its order is 1", x, 0, 4, 0, SIZE, 0, 2, 100);
            }
        }
    }

    /** Promise 1: "An empty paragraph" ... "It is not broken." */
    private static void p1NotBroken() {
        LineBreaker x = new LineBreaker();
        Check.same("P1 nothing yet", Trace.ofLines(x),
                "items 0 pass 0 nodes 0 | throws.IndexOutOfBoundsException");
        Check.same("P1 an empty one can be broken", x.breakUp(), 1);
        Lines.same("P1 an empty one", x, 0, 2, 0, 0, 0, 2, 100);
    }

    /** Promise 2: "IllegalArgumentException when width is no size". */
    private static void p2NoSize() {
        for (int width : NO_SIZES) {
            Refused.byArgument("P2 box(" + width + ")", Build::broken, x -> x.box(width));
            Refused.byArgument("P2 box(" + width + ")", Build::waiting, x -> x.box(width));
        }
        for (int width : SIZES) {
            LineBreaker x = new LineBreaker();
            Check.same("P2 box(" + width + ")", x.box(width), 0);
            x.breakUp();
            Check.same("P2 box(" + width + ") is so wide", x.line(0, 2), -width);
        }
    }

    /** Promise 2: "UnsupportedOperationException when there are 400 items". */
    private static void p2FourHundredItems() {
        Check.same("P2 the 399th", Build.withBoxes(398).box(0), 398);
        Check.same("P2 the 400th", Build.withBoxes(399).box(0), 399);
        Refused.asUnsupported("P2 the 401st", Build::full, x -> x.box(0));
        Refused.asUnsupported("P2 the 401st would be a replaced one", Build::fullAndWaiting, x -> x.box(0));
        LineBreaker x = Build.full();
        Check.same("P2 399 are kept", x.keep(399), true);
        Check.same("P2 then one has room", x.box(0), 399);
        Check.fails("P2 and no other", UnsupportedOperationException.class, () -> x.box(0));
    }

    /** Promise 2: "Each call that adds an item, and keep, makes it one that is not broken". */
    private static void p2NotBrokenAnyMore() {
        Refused.Act[] adding = {
            x -> x.box(0), x -> x.glue(0, 0, 0, 0), x -> x.kern(0, true), x -> x.kern(0, false),
            x -> x.penalty(0), x -> x.hyphen(0, 0, 0), x -> x.keep(10), x -> x.keep(9), x -> x.keep(0)
        };
        for (int i = 0; i < adding.length; i++) {
            LineBreaker x = Build.broken();
            adding[i].on(x);
            Check.same("P2 after call " + i, Trace.ofLines(x), "items " + x.items()
                    + " pass 0 nodes 0 | throws.IndexOutOfBoundsException");
        }
    }

    /** Promise 2: "other calls but breakUp do not". */
    private static void p2OtherCallsLeaveItBroken() {
        LineBreaker x = Build.broken();
        String due = Trace.ofLines(x);
        x.items();
        x.pass();
        x.nodes();
        x.line(0, 0);
        x.total(0);
        x.keep(11);
        for (int which = 0; which < 10; which++) {
            x.set(which, which == 8 ? 77 : 2);
        }
        x.wide(0, 3);
        for (int which = 0; which < 3; which++) {
            x.around(which, 9, 9, 1, 9);
        }
        Check.same("P2 still broken, in the same lines", Trace.ofLines(x), due);
    }

    /** Promise 3: "IllegalArgumentException when width is no size, stretch or shrink no size or below 0". */
    private static void p3Sizes() {
        for (int width : NO_SIZES) {
            Refused.byArgument("P3 width " + width, Build::broken, x -> x.glue(width, 1, 0, 1));
        }
        for (int wrong : NOT_FROM_0) {
            Refused.byArgument("P3 stretch " + wrong, Build::broken, x -> x.glue(1, wrong, 0, 1));
            Refused.byArgument("P3 shrink " + wrong, Build::broken, x -> x.glue(1, 1, 0, wrong));
        }
        for (int width : SIZES) {
            LineBreaker x = new LineBreaker();
            Check.same("P3 width " + width, x.glue(width, 0, 0, 0), 0);
            x.box(0);
            x.breakUp();
            Check.same("P3 width " + width, x.line(0, 2), -width);
        }
        for (int right : new int[] {0, 1, SIZE - 1, SIZE}) {
            LineBreaker x = new LineBreaker();
            Check.same("P3 stretch " + right, x.glue(0, right, 0, 0), 0);
            Check.same("P3 shrink " + right, x.glue(0, 0, 0, right), 1);
        }
        p3StretchAndShrinkCount();
    }

    /** One that was taken counts: 0 gives nothing, 1 gives one unit. */
    private static void p3StretchAndShrinkCount() {
        for (int give = 0; give < 3; give++) {
            LineBreaker x = Build.loose(1, give);
            x.breakUp();
            Check.same("P3 stretch " + give, x.line(0, 3), give == 0 ? 10000 : give == 1 ? 100 : 12);
            LineBreaker y = new LineBreaker();
            Build.forcedLine(y, 1, 0, give);
            y.box(0);
            y.breakUp();
            Check.same("P3 shrink " + give, y.line(0, 3), give == 0 ? 10001 : give == 1 ? 100 : 12);
        }
    }

    /** Promise 3: "or order not 0 .. 3". */
    private static void p3Orders() {
        for (int order : new int[] {-1, 4, Integer.MIN_VALUE, Integer.MAX_VALUE}) {
            Refused.byArgument("P3 order " + order, Build::broken, x -> x.glue(1, 1, order, 1));
            Refused.byArgument("P3 order " + order + " without stretch", Build::broken, x -> x.glue(1, 0, order, 1));
        }
        for (int order = 0; order < 4; order++) {
            LineBreaker x = new LineBreaker();
            x.wide(0, 1000);
            x.penalty(10000);
            Check.same("P3 order " + order, x.glue(0, 1, order, 0), 1);
            Build.append(x, "bfb");
            x.breakUp();
            Check.same("P3 order " + order, x.line(0, 3), order == 0 ? 10000 : 0);
        }
    }

    /** Promise 3: "IllegalStateException when the item would be a replaced one". */
    private static void p3Replaced() {
        replaced("P3", x -> x.glue(1, 2, 0, 3));
    }

    /** For each number of replaced items: the last of them is still refused, the one behind it is not. */
    private static void replaced(String promise, Refused.Act adds) {
        Refused.byState(promise + " would be replaced", Build::waiting, adds);
        for (int replaced : new int[] {0, 1, 2, 9, 10}) {
            for (int there = 0; there < replaced; there++) {
                LineBreaker x = waitingFor(replaced, there);
                Check.fails(promise + " is number " + there + " of " + replaced, IllegalStateException.class, () -> {
                    adds.on(x);
                    return 0;
                });
                Check.same(promise + " nothing came", x.items(), there + 2);
            }
            LineBreaker x = waitingFor(replaced, replaced);
            adds.on(x);
            Check.same(promise + " comes behind " + replaced, x.items(), replaced + 3);
        }
    }

    private static LineBreaker waitingFor(int replaced, int there) {
        LineBreaker x = new LineBreaker();
        x.box(0);
        x.hyphen(0, 0, replaced);
        for (int i = 0; i < there; i++) {
            if (i % 2 == 0) {
                x.box(1);
            } else {
                x.kern(1, i % 4 == 1);
            }
        }
        return x;
    }

    /** Promise 3: "UnsupportedOperationException as for box". */
    private static void p3FourHundredItems() {
        Check.same("P3 the 400th", Build.withBoxes(399).glue(0, 0, 0, 0), 399);
        Refused.asUnsupported("P3 the 401st", Build::full, x -> x.glue(0, 0, 0, 0));
    }

    /** Promise 4: "IllegalArgumentException when width is no size". */
    private static void p4NoSize() {
        for (int width : NO_SIZES) {
            Refused.byArgument("P4 kern(" + width + ", true)", Build::broken, x -> x.kern(width, true));
            Refused.byArgument("P4 kern(" + width + ", false)", Build::waiting, x -> x.kern(width, false));
        }
        for (int width : SIZES) {
            for (int explicit = 0; explicit < 2; explicit++) {
                LineBreaker x = new LineBreaker();
                Check.same("P4 kern " + width, x.kern(width, explicit == 1), 0);
                x.breakUp();
                Check.same("P4 kern " + width, x.line(0, 2), -width);
            }
        }
    }

    /** Promise 4 and Terms, PARAGRAPH: "a KERN (a width), that is EXPLICIT or not". */
    private static void p4Explicit() {
        LineBreaker x = Build.made("begb");
        x.set(9, 1);
        x.breakUp();
        Check.same("P4 an explicit one before glue is a place", x.line(0, 0), 1);
        LineBreaker y = Build.made("bkgb");
        y.set(9, 1);
        y.breakUp();
        Check.same("P4 behind another one the glue is", y.line(0, 0), 2);
    }

    /** Promise 4: "UnsupportedOperationException as for box". */
    private static void p4FourHundredItems() {
        Check.same("P4 the 400th", Build.withBoxes(399).kern(0, true), 399);
        Refused.asUnsupported("P4 the 401st", Build::full, x -> x.kern(0, true));
        Refused.asUnsupported("P4 the 401st", Build::fullAndWaiting, x -> x.kern(0, false));
    }

    /** Promise 5: "what is below -10000 or above 10000 is these". */
    private static void p5Bounds() {
        for (int p : new int[] {Integer.MIN_VALUE, NOTHING, -10002, -10001, -10000}) {
            LineBreaker x = betweenBoxes(p);
            Check.same("P5 " + p + " is forced", x.breakUp(), 2);
            Check.same("P5 " + p + " is not counted", x.total(0), 100);
        }
        for (int p : new int[] {-9999, -9998}) {
            LineBreaker x = betweenBoxes(p);
            Check.same("P5 " + p + " is wished", x.breakUp(), 2);
            Check.same("P5 " + p + " is counted", x.total(0), 100L - (long) p * p);
            Check.same("P5 " + p + " is not forced: there is a line without it", x.nodes(), 3);
        }
        for (int p : new int[] {-1, 0, 1, 9998, 9999}) {
            LineBreaker x = betweenBoxes(p);
            Check.same("P5 " + p + " is not worth a line", x.breakUp(), 1);
            Check.same("P5 " + p + " is a place", x.nodes(), 3);
            x.set(9, 1);
            Check.same("P5 " + p + " may be used", x.breakUp(), 2);
            Check.same("P5 " + p + " is counted", x.total(0), 100 + p * Math.abs(p));
        }
        for (int p : new int[] {10000, 10001, 10002, SIZE + 1, Integer.MAX_VALUE}) {
            LineBreaker x = betweenBoxes(p);
            Check.same("P5 " + p + " is no place", x.breakUp(), 1);
            Check.same("P5 " + p + " is no place", x.nodes(), 1);
        }
    }

    private static LineBreaker betweenBoxes(int p) {
        LineBreaker x = new LineBreaker();
        x.box(0);
        Check.same("P5 its item", x.penalty(p), 1);
        x.box(0);
        return x;
    }

    /** Promise 5: "IllegalStateException and UnsupportedOperationException as for glue". */
    private static void p5Replaced() {
        replaced("P5", x -> x.penalty(5));
    }

    /** Promise 5: the same sentence. */
    private static void p5FourHundredItems() {
        Check.same("P5 the 400th", Build.withBoxes(399).penalty(0), 399);
        Refused.asUnsupported("P5 the 401st", Build::full, x -> x.penalty(0));
    }

    /** Promise 6: "IllegalArgumentException when before or behind is neither a size nor NOTHING". */
    private static void p6SizesAndNothing() {
        for (int wrong : new int[] {SIZE + 1, Integer.MAX_VALUE, NOTHING - 1, Integer.MIN_VALUE}) {
            Refused.byArgument("P6 before " + wrong, Build::broken, x -> x.hyphen(wrong, 1, 0));
            Refused.byArgument("P6 behind " + wrong, Build::broken, x -> x.hyphen(1, wrong, 0));
            Refused.byArgument("P6 both " + wrong, Build::broken, x -> x.hyphen(wrong, wrong, 0));
        }
        for (int right : new int[] {NOTHING, -SIZE, -SIZE + 1, -1, 0, 1, SIZE - 1, SIZE}) {
            int width = right == NOTHING ? 0 : right;
            LineBreaker x = forcedHyphen(right, 0);
            Check.same("P6 before " + right, x.breakUp(), 2);
            Check.same("P6 before " + right, x.line(0, 2), -width);
            LineBreaker y = forcedHyphen(0, right);
            Check.same("P6 behind " + right, y.breakUp(), 2);
            Check.same("P6 behind " + right, y.line(1, 2), -width);
        }
    }

    private static LineBreaker forcedHyphen(int before, int behind) {
        LineBreaker x = new LineBreaker();
        x.set(0, -1);
        x.set(3, -10000);
        x.set(4, -10000);
        x.box(0);
        Check.same("P6 its item", x.hyphen(before, behind, 0), 1);
        x.box(0);
        return x;
    }

    /** Promise 6: "or replaced not 0 .. 10". */
    private static void p6HowManyReplaced() {
        for (int wrong : new int[] {-1, 11, Integer.MIN_VALUE, Integer.MAX_VALUE}) {
            Refused.byArgument("P6 replaced " + wrong, Build::broken, x -> x.hyphen(1, 1, wrong));
        }
        for (int right : new int[] {0, 1, 9, 10}) {
            LineBreaker x = new LineBreaker();
            Check.same("P6 replaced " + right, x.hyphen(1, 1, right), 0);
            for (int there = 0; there < right; there++) {
                Check.fails("P6 " + right + ", but " + there + " are there", IllegalStateException.class, x::breakUp);
                x.box(0);
            }
            Check.same("P6 all " + right + " are there", x.breakUp(), 1);
        }
    }

    /** Promise 6: "IllegalStateException and UnsupportedOperationException as for glue". */
    private static void p6Replaced() {
        replaced("P6", x -> x.hyphen(1, 2, 3));
    }

    /** Promise 6: the same sentence. */
    private static void p6FourHundredItems() {
        Check.same("P6 the 400th", Build.withBoxes(399).hyphen(0, 0, 10), 399);
        Refused.asUnsupported("P6 the 401st", Build::full, x -> x.hyphen(0, 0, 0));
    }

    /** Terms: "where several exceptions that a call names fit, it is the one that it names first". */
    private static void firstNamedException() {
        Refused.byArgument("P2 no size, full", Build::full, x -> x.box(SIZE + 1));
        Refused.byArgument("P3 no size, full and replaced", Build::fullAndWaiting, x -> x.glue(0, -1, 0, 0));
        Refused.byArgument("P3 no size, replaced", Build::waiting, x -> x.glue(0, 0, 4, 0));
        Refused.byState("P3 replaced, full", Build::fullAndWaiting, x -> x.glue(0, 0, 0, 0));
        Refused.byArgument("P4 no size, full", Build::full, x -> x.kern(SIZE + 1, false));
        Refused.byState("P5 replaced, full", Build::fullAndWaiting, x -> x.penalty(0));
        Refused.byArgument("P6 no size, full and replaced", Build::fullAndWaiting, x -> x.hyphen(SIZE + 1, 0, 0));
        Refused.byArgument("P6 11 replaced, replaced", Build::waiting, x -> x.hyphen(0, 0, 11));
        Refused.byArgument("P6 11 replaced, full", Build::full, x -> x.hyphen(0, 0, 11));
        Refused.byState("P6 replaced, full", Build::fullAndWaiting, x -> x.hyphen(0, 0, 0));
    }

    /** Promise 7: "False, and nothing is done, when n is negative, or it has not so many". */
    private static void p7Bounds() {
        for (int n : new int[] {-1, Integer.MIN_VALUE, 11, 12, Integer.MAX_VALUE}) {
            Refused.keep("P7 of 10", Build::broken, n);
        }
        for (int n : new int[] {10, 9, 1, 0}) {
            LineBreaker x = Build.broken();
            Check.same("P7 keep(" + n + ") of 10", x.keep(n), true);
            Check.same("P7 so many are kept", x.items(), n);
            Check.same("P7 the next one", x.box(0), n);
        }
        Refused.keep("P7 of none", LineBreaker::new, 1);
        Refused.keep("P7 of none", LineBreaker::new, -1);
        Check.same("P7 none of none", new LineBreaker().keep(0), true);
        Refused.keep("P7 of 400", Build::full, 401);
        Check.same("P7 400 of 400", Build.full().keep(400), true);
    }

    /** Promise 7: "and is not broken then, however many these are": all of them too. */
    private static void p7NotBroken() {
        for (int n : new int[] {0, 1, 9, 10}) {
            LineBreaker x = Build.broken();
            x.keep(n);
            Check.same("P7 keep(" + n + ")", Trace.ofLines(x),
                    "items " + n + " pass 0 nodes 0 | throws.IndexOutOfBoundsException");
        }
        LineBreaker x = new LineBreaker();
        x.breakUp();
        x.keep(0);
        Check.same("P7 none of none", x.pass(), 0);
    }

    /** Promise 7: "The paragraph keeps its first n items", be they a hyphen and some that it replaces. */
    private static void p7OfReplacedItems() {
        for (int n = 1; n < 6; n++) {
            LineBreaker x = waitingFor(3, 3);
            x.breakUp();
            Check.same("P7 keep(" + n + ")", x.keep(n), true);
            boolean waits = n >= 2 && n <= 4;
            String due = waits ? "throws.IllegalStateException" : String.valueOf(n);
            Check.same("P7 glue behind " + n, Check.outcome(() -> x.glue(0, 0, 0, 0)), due);
        }
    }

    /** Promise 7: what is not kept is gone: an item in its place, and n there, have nothing of it. */
    private static void p7NothingOfTheOthers() {
        String kinds = "bgkexH";
        for (char former : kinds.toCharArray()) {
            LineBreaker none = ofKind(new LineBreaker(), former);
            none.breakUp();
            none.keep(0);
            none.breakUp();
            Lines.same("P7 " + former + ", then nothing", none, 0, 2, 0, 100, 0, 2, 100);
            for (char latter : kinds.toCharArray()) {
                for (int width : new int[] {100, 40}) {
                    LineBreaker x = ofKind(new LineBreaker(), former);
                    x.breakUp();
                    x.keep(0);
                    LineBreaker due = new LineBreaker();
                    ofKind(x, latter).wide(0, width);
                    ofKind(due, latter).wide(0, width);
                    Check.same("P7 " + former + ", then " + latter, Trace.ofItems(x), Trace.ofItems(due));
                }
            }
        }
    }

    /** Items of a kind with all its parts, a box behind each, and a second line behind a forced place. */
    private static LineBreaker ofKind(LineBreaker x, char kind) {
        x.wide(0, 100);
        x.set(0, -1);
        x.set(9, 1);
        for (int i = 0; i < 4; i++) {
            switch (kind) {
                case 'b' -> x.box(10);
                case 'g' -> x.glue(11, 12, i / 3, 13);
                case 'k' -> x.kern(14, false);
                case 'e' -> x.kern(15, true);
                case 'x' -> x.penalty(i == 2 ? 10000 : 16);
                default -> x.hyphen(17, 18, 0);
            }
            x.box(3);
        }
        x.penalty(-10000);
        x.box(24);
        return x;
    }

    /** Promise 8: "How many items the paragraph has. (Those that breakUp() sets behind them are never counted.)" */
    private static void p8Items() {
        LineBreaker x = new LineBreaker();
        Check.same("P8 none", x.items(), 0);
        x.breakUp();
        Check.same("P8 none, broken", x.items(), 0);
        x.glue(1, 1, 1, 1);
        Check.same("P8 one", x.items(), 1);
        x.breakUp();
        Check.same("P8 one, left out of the lines", x.items(), 1);
        LineBreaker y = Build.full();
        Check.same("P8 400, broken", y.items(), 400);
        y.keep(400);
        Check.same("P8 400, not broken", y.items(), 400);
        y.keep(399);
        Check.same("P8 399", y.items(), 399);
    }
}
