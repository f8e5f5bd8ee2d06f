/** Promises 12 to 16: breakUp, pass, nodes, line, total, with the terms that they rest on. */
public final class BreakUpTest {
    private static final int SIZE = 1073741823;
    private static final int NOTHING = LineBreaker.NOTHING;
    private static final Class<IllegalStateException> STATE = IllegalStateException.class;
    private static final Class<UnsupportedOperationException> UNSUPPORTED = UnsupportedOperationException.class;
    private static final Class<IndexOutOfBoundsException> INDEX = IndexOutOfBoundsException.class;

    public static void main(String[] args) {
        exceptions();
        sumsOfSizes();
        lastGlueIsLeftOut();
        placesToBreak();
        penaltyThatForbids();
        firstItems();
        firstItemsBehindHyphens();
        badnessAndFit();
        demerits();
        forcedPlacesEndNodes();
        overfullLinesEndNodes();
        savedLines();
        equalTotals();
        passes();
        looseness();
        loosenessWithGaps();
        eightThousandNodes();
        wrongLines();
        Check.done();
    }

    private static void exceptions() {
        LineBreaker x = new LineBreaker();
        x.box(3);
        x.breakUp();
        x.set(8, SIZE);
        Check.fails("too much stretch", UNSUPPORTED, x::breakUp);
        Check.same("it stays broken", x.pass(), 2);
        Check.same("its line too", x.line(0, 2), -3);
        x.hyphen(SIZE, SIZE, 1);
        Check.fails("the one that is named first", STATE, x::breakUp);
        x.box(0);
        Check.fails("now all are there", UNSUPPORTED, x::breakUp);
    }

    private static void sumsOfSizes() {
        for (int more = 0; more < 2; more++) {
            for (int sign = -1; sign < 2; sign += 2) {
                LineBreaker x = new LineBreaker();
                x.box(sign * 100);
                x.kern(-50, true);
                x.hyphen(sign * -30, -7, 1);
                x.kern(3, false);
                x.glue(10, 0, 0, 0);
                x.around(0, sign * 1000, 0, 0, 0);
                x.around(1, sign * 2000, 0, 0, 0);
                x.around(2, sign * 4000, 0, 0, 0);
                x.box(SIZE - 7200 + more);
                sameSum("widths", x, more);
            }
            LineBreaker y = new LineBreaker();
            y.glue(0, SIZE - 12345 - 65536, 0, 0);
            y.glue(0, 5, 3, 0);
            y.set(8, 10000);
            y.around(0, 0, 2000, 1, 0);
            y.around(1, 0, 340 + more, 2, 0);
            sameSum("stretch", y, more);
            LineBreaker z = new LineBreaker();
            z.glue(0, 0, 0, SIZE - 1111);
            z.glue(0, 0, 0, 1);
            z.around(0, 0, 0, 0, 1000);
            z.around(1, 0, 0, 0, 100);
            z.around(2, 0, 0, 0, 10 + more);
            sameSum("shrink", z, more);
        }
    }

    private static void sameSum(String what, LineBreaker x, int more) {
        String got = Check.outcome(x::breakUp);
        Check.same(what, got.startsWith("throws"), more == 1);
        if (more == 1) {
            Check.same(what, got, "throws.UnsupportedOperationException");
        }
    }

    private static void lastGlueIsLeftOut() {
        LineBreaker x = new LineBreaker();
        x.wide(0, 100);
        x.box(5);
        x.glue(9, 0, 0, 0);
        x.glue(30, 0, 0, 0);
        x.breakUp();
        Check.same("end", x.line(0, 0), 4);
        Check.same("shortfall", x.line(0, 2), 86);
        Check.same("items", x.items(), 3);
        x.box(1);
        x.breakUp();
        Check.same("no longer the last", x.line(0, 2), 55);
        x.keep(2);
        x.breakUp();
        Check.same("only the box", x.line(0, 2), 95);
        x.keep(0);
        x.glue(7, 7, 0, 7);
        x.breakUp();
        Check.same("nothing but glue", x.line(0, 0), 2);
        Check.same("nothing but glue", x.line(0, 2), 100);
    }

    /** Without widths each place but one is reached with each number of lines: P (P + 1) / 2 nodes. */
    private static void samePlaces(String what, LineBreaker x, int inFirstPass, int inSecondPass) {
        x.set(0, 0);
        x.breakUp();
        Check.same(what + ", first pass", x.nodes(), (inFirstPass + 1) * (inFirstPass + 2) / 2);
        x.set(0, -1);
        x.breakUp();
        Check.same(what + ", second pass", x.nodes(), (inSecondPass + 1) * (inSecondPass + 2) / 2);
    }

    private static LineBreaker made(String parts) {
        LineBreaker x = new LineBreaker();
        for (int i = 0; i < parts.length(); i++) {
            switch (parts.charAt(i)) {
                case 'b' -> x.box(0);
                case 'g' -> x.glue(0, 0, 0, 0);
                case 'k' -> x.kern(0, false);
                case 'e' -> x.kern(0, true);
                case 'p' -> x.penalty(0);
                case '0', '1', '2', '3' -> x.hyphen(0, 0, parts.charAt(i) - '0');
                default -> throw new IllegalArgumentException(parts);
            }
        }
        return x;
    }

    private static void placesToBreak() {
        samePlaces("glue at the beginning", made("gb"), 0, 0);
        samePlaces("glue behind a box", made("bgb"), 1, 1);
        samePlaces("glue behind a kern", made("bkgb"), 1, 1);
        samePlaces("glue behind glue", made("bggb"), 1, 1);
        samePlaces("glue behind a penalty", made("bpgb"), 1, 1);
        samePlaces("glue behind a hyphen", made("b0gb"), 1, 2);
        samePlaces("an explicit kern, and not the glue behind it", made("begb"), 1, 1);
        samePlaces("an explicit kern without glue", made("beb"), 0, 0);
        samePlaces("an explicit kern before glue that is left out", made("beg"), 0, 0);
        samePlaces("an explicit kern at the end", made("be"), 0, 0);
        samePlaces("glue behind a replaced explicit kern, and not that", made("b1egb"), 1, 2);
        samePlaces("glue behind replaced items", made("b2ebgb"), 1, 2);
        samePlaces("an explicit kern behind replaced ones", made("b1eegb"), 1, 2);
        samePlaces("hyphens", made("b0b0b1b"), 0, 3);
        samePlaces("penalties", made("pbp"), 2, 2);
        samePlaces("boxes and kerns", made("bbkkb"), 0, 0);
    }

    private static void penaltyThatForbids() {
        LineBreaker x = new LineBreaker();
        x.box(0);
        x.hyphen(0, 0, 0);
        x.box(0);
        x.hyphen(NOTHING, 0, 0);
        x.box(0);
        samePlaces("both", x, 0, 2);
        x.set(3, 10000);
        samePlaces("the empty one", x, 0, 1);
        x.set(4, 10000);
        samePlaces("none", x, 0, 0);
        x.set(3, 9999);
        samePlaces("the other one", x, 0, 1);
    }

    private static void firstItems() {
        LineBreaker x = new LineBreaker();
        x.wide(0, 100);
        x.glue(5, 0, 0, 0);
        x.box(20);
        x.penalty(-10000);
        x.glue(7, 0, 0, 0);
        x.kern(9, true);
        x.penalty(300);
        x.kern(11, false);
        x.penalty(-10000);
        x.glue(2, 0, 0, 0);
        x.penalty(-10000);
        x.penalty(-10000);
        x.box(40);
        x.penalty(-10000);
        Check.same("lines", x.breakUp(), 6);
        Check.same("from the beginning", x.line(0, 1), 0);
        Check.same("with its glue", x.line(0, 2), 75);
        Check.same("a kern that is not explicit", x.line(1, 1), 6);
        Check.same("its shortfall", x.line(1, 2), 89);
        Check.same("the line's end is before its first item", x.line(2, 1), 11);
        Check.same("so it is empty", x.line(2, 2), 100);
        Check.same("the end of it", x.line(2, 0), 9);
        Check.same("and the next", x.line(3, 1), 11);
        Check.same("and the one that has it", x.line(4, 1), 11);
        Check.same("its shortfall", x.line(4, 2), 60);
        Check.same("no other item is left", x.line(5, 1), 16);
        Check.same("not even the fill", x.line(5, 3), 10000);
        Check.same("the end", x.line(5, 0), 15);
    }

    /** Forced hyphens, with glue behind each. */
    private static void firstItemsBehindHyphens() {
        for (int replaced = 0; replaced < 3; replaced++) {
            for (int behind : new int[] {NOTHING, 0, 6}) {
                LineBreaker x = new LineBreaker();
                x.wide(0, 1000);
                x.set(0, -1);
                x.set(3, -10000);
                x.box(50);
                x.hyphen(4, behind, replaced);
                for (int i = 0; i < replaced; i++) {
                    x.box(300);
                }
                x.glue(20, 0, 0, 0);
                x.hyphen(NOTHING, NOTHING, 1);
                x.box(8);
                Check.same("lines", x.breakUp(), 2);
                Check.same("end", x.line(0, 0), 1);
                Check.same("what stands before it", x.line(0, 2), 1000 - 54);
                Check.same("first", x.line(1, 1), (behind == NOTHING ? 3 : 2) + replaced);
                int due = behind == NOTHING ? 8 : behind + 28;
                Check.same("what stands behind it", x.line(1, 2), 1000 - due);
            }
        }
    }

    /** A line that misses so much (or, below 0, has too much), with so much stretch or shrink. */
    private static void sameBadness(int shortfall, int give, int badness, int fit) {
        LineBreaker x = new LineBreaker();
        x.set(0, 10000);
        x.wide(0, shortfall);
        x.wide(1, 0);
        x.penalty(10000);
        x.glue(0, shortfall > 0 ? give : 0, 0, shortfall > 0 ? 0 : give);
        x.box(0);
        x.penalty(-10000);
        x.box(0);
        String what = "shortfall " + shortfall + " with " + give;
        x.breakUp();
        Check.same(what, x.line(0, 2), shortfall);
        Check.same(what + ", badness", x.line(0, 3), badness);
        Check.same(what + ", fit", x.line(0, 4), fit);
    }

    private static void badnessAndFit() {
        sameBadness(0, 0, 0, 2);
        sameBadness(1, 0, 10000, 0);
        sameBadness(297, 594, 12, 2);
        sameBadness(297, 588, 13, 1);
        sameBadness(149, 297, 13, 1);
        sameBadness(148, 297, 12, 2);
        sameBadness(296, 297, 99, 1);
        sameBadness(297, 297, 100, 0);
        sameBadness(1290, 297, 8189, 0);
        sameBadness(1291, 297, 10000, 0);
        sameBadness(7230584, 1663496, 8189, 0);
        sameBadness(7230584, 1663497, 8189, 0);
        sameBadness(7230585, 1663497, 8189, 0);
        sameBadness(7230585, 1663496, 10000, 0);
        sameBadness(9000110, 2100086, 7869, 0);
        sameBadness(9000109, 2100086, 7851, 0);
        sameBadness(SIZE, SIZE - 65536, 100, 0);
        sameBadness(-148, 297, 12, 2);
        sameBadness(-149, 297, 13, 3);
        sameBadness(-297, 297, 100, 3);
        sameBadness(-298, 297, 10001, 3);
        sameBadness(-1, 0, 10001, 3);
        sameBadness(-SIZE, SIZE, 100, 3);
        LineBreaker x = new LineBreaker();
        x.wide(0, SIZE);
        x.box(-SIZE);
        x.breakUp();
        Check.same("the greatest shortfall", x.line(0, 2), 2147483646);
        x.wide(0, -SIZE);
        x.keep(0);
        x.box(SIZE);
        x.breakUp();
        Check.same("the least shortfall", x.line(0, 2), -2147483646);
    }

    /** The total of a first line with badness 100 (fit 0) up to a penalty. */
    private static long demeritsOf(int linePenalty, int penalty, int adjacent) {
        LineBreaker x = new LineBreaker();
        x.set(0, 10000);
        x.set(2, linePenalty);
        x.set(7, adjacent);
        x.wide(0, 1000);
        x.penalty(10000);
        x.glue(0, 1000, 0, 0);
        x.box(0);
        x.penalty(penalty);
        x.box(0);
        x.set(9, penalty < 0 ? 0 : 1);
        x.breakUp();
        Check.same("end", x.line(0, 0), 3);
        return x.total(0);
    }

    private static void demerits() {
        Check.same("squared", demeritsOf(10, 0, 0), 12100);
        Check.same("below 0", demeritsOf(-300, 0, 0), 40000);
        Check.same("9999", demeritsOf(9899, 0, 0), 9999L * 9999L);
        Check.same("10000", demeritsOf(9900, 0, 0), 100000000);
        Check.same("10001", demeritsOf(9901, 0, 0), 100000000);
        Check.same("10100", demeritsOf(10000, 0, 0), 100000000);
        Check.same("a penalty", demeritsOf(10, 9999, 0), 12100 + 9999L * 9999L);
        Check.same("one below 0", demeritsOf(10, -9999, 0), 12100 - 9999L * 9999L);
        Check.same("a forced one", demeritsOf(10, -10000, 0), 12100);
        Check.same("adjacent", demeritsOf(10, 1, 77), 12100 + 1 + 77);
    }

    private static void forcedPlacesEndNodes() {
        LineBreaker x = made("bpbpb");
        x.penalty(-10000);
        x.box(0);
        x.breakUp();
        Check.same("6 nodes up to the forced one, 3 behind it", x.nodes(), 9);
        Check.same("the fewest lines win", x.line(0, 0), 5);
    }

    /** What makes a line overfull ends its node, even if a box below 0 would make it short again. */
    private static void overfullLinesEndNodes() {
        LineBreaker x = new LineBreaker();
        x.wide(0, 10);
        x.box(11);
        x.penalty(0);
        x.box(-1);
        x.penalty(0);
        x.box(10);
        Check.same("lines", x.breakUp(), 2);
        Check.same("the overfull line", x.line(0, 3), 10001);
        Check.same("its end", x.line(0, 0), 1);
        x.keep(1);
        x.box(-1);
        x.penalty(0);
        x.box(10);
        Check.same("no place between", x.breakUp(), 2);
        Check.same("it fits", x.line(0, 3), 0);
    }

    private static void savedLines() {
        LineBreaker x = new LineBreaker();
        x.wide(0, 20);
        x.set(1, 50);
        x.box(15);
        x.glue(3, 1, 0, 1);
        x.box(18);
        x.glue(3, 1, 0, 1);
        x.box(9);
        Check.same("lines", x.breakUp(), 2);
        Lines.same("the first place that is overfull", x, 0, 3, 0, -16, 10001, 3, 0);
        Lines.same("the last line", x, 1, 7, 4, 11, 0, 2, 100);
        Check.same("pass", x.pass(), 2);
        x.set(8, 1);
        x.breakUp();
        Check.same("only in the last pass", x.pass(), 3);
        LineBreaker y = new LineBreaker();
        y.wide(0, 20);
        y.penalty(-10000);
        y.box(5);
        Check.same("lines", y.breakUp(), 2);
        Lines.same("a forced place too far", y, 0, 0, 0, 20, 10000, 0, 0);
        Lines.same("from there its own fit counts", y, 1, 4, 1, 15, 0, 2, 10100);
    }

    private static void equalTotals() {
        LineBreaker x = made("bpbpbpb");
        x.set(9, 1);
        Check.same("lines", x.breakUp(), 2);
        Check.same("of equal ones the least place", x.line(0, 0), 1);
        x.set(9, 2);
        Check.same("lines", x.breakUp(), 3);
        Check.same("of equal ones the least place", x.line(0, 0), 1);
        Check.same("of equal ones the least place", x.line(1, 0), 3);
        x.set(9, 0);
        x.set(2, 0);
        Check.same("of equal totals the fewest lines", x.breakUp(), 1);
    }

    private static void passes() {
        LineBreaker x = new LineBreaker();
        x.wide(0, 1000);
        x.box(0);
        x.glue(0, 500, 0, 0);
        x.box(0);
        x.penalty(-10000);
        x.box(0);
        int badness = 800;
        x.set(0, badness);
        x.breakUp();
        Check.same("badness", x.line(0, 3), badness);
        Check.same("first", x.pass(), 1);
        x.set(0, badness - 1);
        x.set(1, badness);
        x.breakUp();
        Check.same("second", x.pass(), 2);
        x.set(1, badness - 1);
        x.set(8, 1);
        x.breakUp();
        Check.same("third", x.pass(), 3);
        Check.same("badness with more stretch", x.line(0, 3) < badness, true);
        x.set(0, -1);
        x.set(1, 10000);
        x.breakUp();
        Check.same("no first one", x.pass(), 2);
        Check.same("no more stretch in it", x.line(0, 3), badness);
    }

    private static void looseness() {
        LineBreaker x = made("bpbpb");
        x.set(9, 1);
        Check.same("one more", x.breakUp(), 2);
        Check.same("in the first pass", x.pass(), 1);
        x.set(9, 2);
        Check.same("two more", x.breakUp(), 3);
        Check.same("in the first pass", x.pass(), 1);
        x.set(9, 5);
        Check.same("as many as there can be", x.breakUp(), 3);
        Check.same("in the last pass", x.pass(), 2);
        x.set(8, 1);
        Check.same("as many as there can be", x.breakUp(), 3);
        Check.same("in the last pass", x.pass(), 3);
        x.set(8, 0);
        x.set(9, -1);
        Check.same("not fewer than one", x.breakUp(), 1);
        Check.same("in the last pass", x.pass(), 2);
        x.keep(0);
        x.box(0);
        x.penalty(-100);
        x.box(0);
        x.penalty(-90);
        x.box(0);
        x.set(9, 0);
        Check.same("the best has three", x.breakUp(), 3);
        x.set(9, -1);
        Check.same("one fewer", x.breakUp(), 2);
        Check.same("the better of them", x.line(0, 0), 1);
        x.set(9, -2);
        Check.same("two fewer", x.breakUp(), 1);
        Check.same("in the first pass", x.pass(), 1);
        x.set(9, 1);
        Check.same("no more there are", x.breakUp(), 3);
    }

    /** It fits in one line and in four, but not in two or three: the kern is only there in one line. */
    private static LineBreaker oneOrFour(int penalty) {
        LineBreaker x = new LineBreaker();
        x.wide(0, 30);
        x.wide(1, 10);
        x.around(2, 0, 0, 0, 0);
        x.box(30);
        x.penalty(penalty);
        x.kern(-30, true);
        for (int i = 0; i < 3; i++) {
            x.box(10);
            x.penalty(i < 2 ? penalty : 10000);
        }
        return x;
    }

    private static void loosenessWithGaps() {
        LineBreaker x = oneOrFour(0);
        Check.same("the best has one", x.breakUp(), 1);
        x.set(9, 3);
        Check.same("four", x.breakUp(), 4);
        Check.same("just as wished", x.pass(), 1);
        x.set(9, 2);
        Check.same("four would be nearer, but are beyond", x.breakUp(), 1);
        Check.same("in the last pass", x.pass(), 2);
        x.set(9, 100);
        Check.same("not beyond", x.breakUp(), 4);
        LineBreaker y = oneOrFour(-100);
        Check.same("the best has four", y.breakUp(), 4);
        y.set(9, -2);
        Check.same("one would be nearer, but is beyond", y.breakUp(), 4);
        y.set(9, -3);
        Check.same("one", y.breakUp(), 1);
        Check.same("just as wished", y.pass(), 1);
    }

    /** Behind 125 forced places 125 ordinary ones, n among them: 125 + 125 * 126 / 2 = 8000 nodes. */
    private static void eightThousandNodes() {
        LineBreaker x = new LineBreaker();
        for (int i = 0; i < 125; i++) {
            x.penalty(-10000);
        }
        for (int i = 0; i < 124; i++) {
            x.penalty(0);
        }
        Check.same("just so many", x.breakUp(), 126);
        Check.same("nodes", x.nodes(), 8000);
        Check.same("pass", x.pass(), 1);
        x.set(9, 100);
        Check.same("just so many, looser", x.breakUp(), 226);
        x.set(9, 0);
        x.penalty(10000);
        Check.same("no place more", x.breakUp(), 126);
        x.keep(248);
        x.breakUp();
        Check.same("fewer", x.nodes(), 8000 - 125);
        fullAfterBroken();
        brokenAfterFull();
    }

    private static void fullAfterBroken() {
        LineBreaker x = new LineBreaker();
        x.box(0);
        for (int i = 0; i < 130; i++) {
            x.hyphen(0, 0, 0);
        }
        Check.same("hyphens are no places in the first pass", x.breakUp(), 1);
        Check.same("pass", x.pass(), 1);
        x.set(0, -1);
        Check.same("full", x.breakUp(), LineBreaker.FULL);
        Check.same("whatever it was before", x.pass(), 0);
        Check.same("whatever it was before", x.nodes(), 0);
        Check.fails("whatever it was before", INDEX, () -> x.line(0, 0));
        Check.fails("whatever it was before", INDEX, () -> x.total(0));
        x.keep(3);
        Check.same("it can be broken again", x.breakUp(), 1);
    }

    private static void brokenAfterFull() {
        LineBreaker x = new LineBreaker();
        x.set(2, 0);
        for (int i = 0; i < 125; i++) {
            x.penalty(0);
        }
        Check.same("8001 are too many", x.breakUp(), LineBreaker.FULL);
        Check.same("not broken", x.pass(), 0);
        x.set(2, 10);
        x.keep(0);
        for (int i = 0; i < 130; i++) {
            x.penalty(-10000);
        }
        Check.same("lines", x.breakUp(), 131);
        for (int i = 0; i < 131; i++) {
            Check.same("nothing is left of the nodes before, line " + i, x.total(i), 100 * (i + 1));
        }
    }

    private static void wrongLines() {
        LineBreaker x = made("bpb");
        x.set(9, 1);
        x.breakUp();
        for (int i : new int[] {-1, 2, Integer.MIN_VALUE, Integer.MAX_VALUE}) {
            Check.fails("line", INDEX, () -> x.line(i, 0));
            Check.fails("total", INDEX, () -> x.total(i));
        }
        for (int what : new int[] {-1, 5, Integer.MIN_VALUE, Integer.MAX_VALUE}) {
            Check.fails("line", INDEX, () -> x.line(0, what));
        }
        Check.fails("both", INDEX, () -> x.line(2, 5));
        Lines.same("first", x, 0, 1, 0, 0, 0, 2, 100);
        Lines.same("second", x, 1, 5, 2, 0, 0, 2, 200);
    }
}
