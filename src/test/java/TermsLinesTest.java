/** Terms, "LINE", "WIDTH .. FIT and BADNESS" and "BAD": each sentence that names a boundary. */
public final class TermsLinesTest {
    private static final int SIZE = Build.SIZE;
    private static final int NOTHING = Build.NOTHING;
    /** Item i's width is bit i, so is what stands before a break there; what stands behind is this higher. */
    private static final int BEHIND = 14;

    public static void main(String[] args) {
        fromTheBeginning();
        fromAHyphen();
        fromAHyphenWithNothingBehind();
        fromOtherPlaces();
        endBeforeTheFirstOne();
        withoutPenaltiesAndHyphens();
        noOtherItemIsLeft();
        leftAndRight();
        sums();
        sumsOfEachLine();
        shortfall();
        fitOfStretch();
        endlessStretch();
        fitOfShrink();
        badOfNothing();
        badOfSmallOnes();
        badOfGreatOnes();
        badIsAtMost10000();
        Check.done();
    }

    /**
     * As in Build, but with widths: H is a hyphen, I one with nothing behind its break, both forced;
     * J one that is no place. A digit behind these is how many items they replace.
     */
    private static LineBreaker weighed(String parts) {
        LineBreaker x = new LineBreaker();
        x.set(0, -1);
        x.set(3, -10000);
        x.set(4, 10000);
        for (int at = 0; at < parts.length(); at++) {
            int width = 1 << x.items();
            char part = parts.charAt(at);
            boolean counted = at + 1 < parts.length() && Character.isDigit(parts.charAt(at + 1));
            int replaced = counted ? parts.charAt(at + 1) - '0' : 0;
            switch (part) {
                case 'b' -> x.box(width);
                case 'g' -> x.glue(width, 0, 0, 0);
                case 'k' -> x.kern(width, false);
                case 'e' -> x.kern(width, true);
                case 'H' -> x.hyphen(width, width << BEHIND, replaced);
                case 'I' -> x.hyphen(width, NOTHING, replaced);
                case 'J' -> x.hyphen(NOTHING, width << BEHIND, replaced);
                default -> Build.append(x, String.valueOf(part));
            }
            at += counted ? 1 : 0;
        }
        return x;
    }

    /** due: the items whose widths the line has; 3> is what stands behind the break at item 3. */
    private static void sameLine(String parts, int i, int end, int first, String due) {
        LineBreaker x = weighed(parts);
        x.breakUp();
        String what = "LINE " + i + " of " + parts;
        Check.same(what + ", end", x.line(i, 0), end);
        Check.same(what + ", first one", x.line(i, 1), first);
        StringBuilder got = new StringBuilder();
        int width = -x.line(i, 2);
        for (int item = 0; item < 2 * BEHIND; item++) {
            if ((width >> item & 1) != 0) {
                got.append(' ').append(item < BEHIND ? String.valueOf(item) : item - BEHIND + ">");
            }
        }
        Check.same(what + ", items", got.toString().trim(), due);
    }

    /** Terms, LINE: "from the beginning item 0": nothing is left out there. */
    private static void fromTheBeginning() {
        sameLine("bfb", 0, 1, 0, "0");
        sameLine("gbfb", 0, 2, 0, "0 1");
        sameLine("exbfb", 0, 3, 0, "0 2");
        sameLine("xgbfb", 0, 3, 0, "1 2");
        sameLine("fb", 0, 0, 0, "");
        sameLine("gxf", 0, 2, 0, "0");
    }

    /** Terms, LINE: "behind a hyphen that of the items behind the replaced ones", be it what it may. */
    private static void fromAHyphen() {
        sameLine("Hb", 0, 0, 0, "0");
        sameLine("Hb", 1, 4, 1, "1 0>");
        sameLine("bHb", 0, 1, 0, "0 1");
        sameLine("bHb", 1, 5, 2, "2 1>");
        sameLine("bHxgb", 1, 7, 2, "3 4 1>");
        sameLine("bHexb", 1, 7, 2, "2 4 1>");
        sameLine("bH1bxgb", 1, 8, 3, "4 5 1>");
        sameLine("bH3bkebxgb", 0, 1, 0, "0 1");
        sameLine("bH3bkebxgb", 1, 11, 5, "5 7 8 1>");
        sameLine("bH9bbbbbbbbbb", 1, 14, 11, "11 1>");
        sameLine("bH", 1, 4, 2, "1>");
        sameLine("bH2bb", 1, 6, 4, "1>");
        sameLine("bHHb", 1, 2, 2, "2 1>");
        sameLine("bHHb", 2, 6, 3, "3 2>");
        sameLine("bH1bHb", 1, 3, 3, "3 1>");
    }

    /**
     * Terms, LINE: "but if what stands behind its break is nothing, glue, explicit kerns, penalties
     * are left out up to the first other item".
     */
    private static void fromAHyphenWithNothingBehind() {
        sameLine("bIb", 1, 5, 2, "2");
        sameLine("bIxgexb", 1, 9, 6, "6");
        sameLine("bIxgexkb", 1, 10, 6, "6 7");
        sameLine("bI1bxgb", 1, 8, 5, "5");
        sameLine("bI2kexgb", 1, 9, 6, "6");
        sameLine("bI1bexb", 1, 8, 5, "5");
        sameLine("bI1bbexb", 1, 9, 3, "3 4 6");
        sameLine("bIxgHb", 1, 4, 4, "4");
        sameLine("bIxgJb", 1, 8, 4, "5");
    }

    /** Terms, LINE: "else, from A on, these are left out so". */
    private static void fromOtherPlaces() {
        sameLine("bfb", 1, 5, 2, "2");
        sameLine("bfgb", 1, 6, 3, "3");
        sameLine("bfgexkb", 1, 9, 5, "5 6");
        sameLine("bfgexJ1bb", 1, 10, 5, "6 7");
        sameLine("bgb", 1, 5, 2, "2");
        sameLine("bggexb", 1, 8, 5, "5");
        sameLine("begb", 1, 6, 3, "3");
        sameLine("begxeb", 1, 8, 5, "5");
        sameLine("bgkgb", 1, 3, 2, "2");
        sameLine("fb", 1, 4, 1, "1");
        sameLine("egb", 1, 5, 2, "2");
        sameLine("fxgb", 1, 6, 3, "3");
    }

    /** Terms, LINE: "(If E comes before the first one, there are no items.)": before it, at it, behind it. */
    private static void endBeforeTheFirstOne() {
        sameLine("bfgfxb", 1, 3, 5, "");
        sameLine("bfgfxb", 2, 8, 5, "5");
        sameLine("bfffb", 1, 2, 4, "");
        sameLine("bfffb", 2, 3, 4, "");
        sameLine("bfffb", 3, 7, 4, "4");
        sameLine("bfgHb", 1, 3, 3, "3");
        sameLine("bfgHb", 2, 7, 4, "4 3>");
        sameLine("bfgbfb", 1, 4, 3, "3");
        sameLine("bIxfb", 1, 3, 4, "");
        sameLine("bHxfb", 1, 3, 2, "1>");
        sameLine("bHfb", 1, 2, 2, "1>");
    }

    /** Terms, LINE: "without penalties and hyphens, and without what E's hyphen replaces". */
    private static void withoutPenaltiesAndHyphens() {
        sameLine("bxbJbfb", 0, 5, 0, "0 2 4");
        sameLine("bJ2kebfb", 0, 5, 0, "0 2 3 4");
        sameLine("bJ2kebH2bbb", 0, 5, 0, "0 2 3 4 5");
        sameLine("bJ2kebH2bbb", 1, 11, 8, "8 5>");
    }

    /**
     * Terms, LINE: "left out up to the first other item": there is none before the end, so that the
     * closing ones ("These are items too, then; n is the last one's place") are left out too, and
     * the fill with them, whether the line goes to n or ends before.
     */
    private static void noOtherItemIsLeft() {
        for (String parts : new String[] {"bf", "bfe", "bfgg", "bfxe", "bI", "bIxe"}) {
            LineBreaker x = weighed(parts);
            x.wide(0, 8);
            x.around(2, 4, 1, 1, 0);
            x.breakUp();
            int n = x.line(1, 0);
            Check.same("LINE, nothing is left of " + parts, x.line(1, 2), 8);
            Check.same("LINE, not even the fill of " + parts, x.line(1, 3), 10000);
            Check.same("LINE, the first one is behind n, " + parts, x.line(1, 1), n + 1);
        }
        sameLine("bff", 1, 2, 6, "");
        sameLine("bff", 2, 5, 6, "");
        sameLine("bgg", 1, 4, 5, "");
        LineBreaker x = weighed("bH");
        x.wide(0, 40000);
        x.around(2, 4, 1, 1, 0);
        x.breakUp();
        Check.same("LINE, behind a hyphen with something the fill is there", x.line(1, 2), 40000 - 32768 - 4);
        Check.same("LINE, and stretches", x.line(1, 3), 0);
    }

    /** Terms, LINE: "It has: LEFT and RIGHT, which are glue", even if it has no items. */
    private static void leftAndRight() {
        LineBreaker x = Build.made("bfffb");
        x.wide(0, 100);
        x.around(0, 3, 50, 0, 0);
        x.around(1, 5, 42, 0, 0);
        x.breakUp();
        for (int i = 0; i < 3; i++) {
            Check.same("LINE, left and right, line " + i, x.line(i, 2), 92);
            Check.same("LINE, their stretch, line " + i, x.line(i, 3), 100);
        }
    }

    /** Terms: "Its WIDTH, its STRETCH of each order, and its SHRINK are the sums of these." */
    private static void sums() {
        LineBreaker x = new LineBreaker();
        x.wide(0, 297);
        x.wide(1, 0);
        x.around(0, 0, 7, 0, 0);
        x.around(1, 0, 90, 0, 0);
        x.penalty(10000);
        x.glue(0, 100, 0, 0);
        x.glue(0, 99, 0, 0);
        Build.append(x, "bfb");
        x.breakUp();
        Check.same("STRETCH, one is missing", x.line(0, 3), 101);
        x.around(0, 0, 8, 0, 0);
        x.breakUp();
        Check.same("STRETCH, it is there", x.line(0, 3), 100);
        LineBreaker y = new LineBreaker();
        y.wide(0, -100);
        y.wide(1, 0);
        y.around(0, 0, 0, 0, 10);
        y.around(1, 0, 0, 0, 20);
        y.penalty(10000);
        y.glue(0, 0, 3, 30);
        y.glue(0, 0, 0, 39);
        Build.append(y, "bfb");
        y.breakUp();
        Check.same("SHRINK, one is missing", y.line(0, 3), 10001);
        y.around(1, 0, 0, 0, 21);
        y.breakUp();
        Check.same("SHRINK, it is there", y.line(0, 3), 100);
    }

    /** Terms: the sums are each line's own, of endless stretch too. */
    private static void sumsOfEachLine() {
        for (int mask = 0; mask < 32; mask++) {
            LineBreaker x = new LineBreaker();
            x.set(0, -1);
            x.wide(0, 10);
            x.around(2, 0, mask >> 4, 2, 0);
            for (int i = 0; i < 4; i++) {
                Build.append(x, "bx");
                x.glue(1, 0, 0, 0);
                x.glue(1, mask >> i & 1, 1 + i % 3, 0);
                Build.append(x, "bf");
            }
            x.box(0);
            x.breakUp();
            for (int i = 0; i < 5; i++) {
                Check.same("STRETCH of line " + i + " of " + mask, x.line(i, 3), (mask >> i & 1) == 1 ? 0 : 10000);
                Check.same("WIDTH of line " + i + " of " + mask, x.line(i, 2), i < 4 ? 8 : 10);
            }
        }
    }

    /** Terms, SHORTFALL: "the width that lines of its number should have, less its width": as far as it can be. */
    private static void shortfall() {
        int[][] due = {{SIZE, -SIZE}, {SIZE, SIZE}, {-SIZE, SIZE}, {-SIZE, -SIZE}, {0, SIZE}, {0, 0}, {7, 8}, {8, 7}};
        for (int[] d : due) {
            LineBreaker x = new LineBreaker();
            x.wide(0, d[0]);
            x.box(d[1]);
            x.breakUp();
            Check.same("SHORTFALL, " + d[0] + " less " + d[1], x.line(0, 2), d[0] - d[1]);
            Check.same("its badness", x.line(0, 3), d[0] >= d[1] ? 0 : 10001);
        }
        LineBreaker x = new LineBreaker();
        for (int i = 0; i < 22; i++) {
            Build.append(x, "f");
        }
        for (int i = 0; i < 20; i++) {
            x.wide(i, i + 1);
        }
        x.breakUp();
        for (int i = 0; i < 23; i++) {
            Check.same("SHORTFALL of line " + i, x.line(i, 2), Math.min(i + 1, 20));
        }
    }

    /** A line that misses so much (or, below 0, has too much), with so much stretch or shrink. */
    private static void sameBadness(String sentence, int shortfall, int give, int badness, int fit) {
        LineBreaker x = new LineBreaker();
        x.set(0, 10000);
        x.wide(0, shortfall);
        x.wide(1, 0);
        x.around(2, 0, 0, 0, 0);
        Build.forcedLine(x, 0, shortfall > 0 ? give : 0, shortfall > 0 ? 0 : give);
        x.box(0);
        x.breakUp();
        String what = sentence + ", " + shortfall + " with " + give;
        Check.same(what, x.line(0, 2), shortfall);
        Check.same(what + ", badness", x.line(0, 3), badness);
        Check.same(what + ", fit", x.line(0, 4), fit);
    }

    /** Terms, FIT: "1 (loose) if that is above 12, 0 (very loose) if above 99, else 2". */
    private static void fitOfStretch() {
        sameBadness("FIT", 144, 297, 11, 2);
        sameBadness("FIT", 148, 297, 12, 2);
        sameBadness("FIT", 149, 297, 13, 1);
        sameBadness("FIT", 295, 297, 98, 1);
        sameBadness("FIT", 296, 297, 99, 1);
        sameBadness("FIT", 297, 297, 100, 0);
        sameBadness("FIT", 1, 297, 0, 2);
        sameBadness("FIT", 1, 0, 10000, 0);
    }

    /** Terms, FIT: "with a shortfall above 0: 2 and 0, if there is stretch of order 1, 2 or 3". */
    private static void endlessStretch() {
        for (int order = 0; order < 4; order++) {
            for (int stretch = 0; stretch < 2; stretch++) {
                for (int shortfall : new int[] {-1, 0, 1, SIZE}) {
                    LineBreaker x = new LineBreaker();
                    x.set(0, 10000);
                    x.wide(0, shortfall);
                    x.wide(1, 0);
                    x.penalty(10000);
                    x.glue(0, stretch, order, 0);
                    Build.append(x, "bfb");
                    x.breakUp();
                    boolean endless = order > 0 && stretch > 0;
                    int badness = shortfall == SIZE || stretch == 0 ? 10000 : 100;
                    int due = shortfall < 0 ? 10001 : shortfall == 0 || endless ? 0 : badness;
                    String what = "FIT, shortfall " + shortfall + ", stretch " + stretch + " of order " + order;
                    Check.same(what, x.line(0, 3), due);
                    Check.same(what, x.line(0, 4), shortfall < 0 ? 3 : due == 0 ? 2 : 0);
                }
            }
        }
    }

    /** Terms, FIT: "3 (tight) if that is above 12, else 2; but if the shrink is less than is missing .. OVERFULL". */
    private static void fitOfShrink() {
        sameBadness("FIT", 0, 0, 0, 2);
        sameBadness("FIT", 0, 1, 0, 2);
        sameBadness("FIT", -1, 0, 10001, 3);
        sameBadness("FIT", -1, 1, 100, 3);
        sameBadness("FIT", -1, 2, 12, 2);
        sameBadness("FIT", -144, 297, 11, 2);
        sameBadness("FIT", -148, 297, 12, 2);
        sameBadness("FIT", -149, 297, 13, 3);
        sameBadness("FIT", -296, 297, 99, 3);
        sameBadness("OVERFULL", -297, 298, 99, 3);
        sameBadness("OVERFULL", -297, 297, 100, 3);
        sameBadness("OVERFULL", -297, 296, 10001, 3);
        sameBadness("OVERFULL", -SIZE, SIZE, 100, 3);
        sameBadness("OVERFULL", -SIZE, SIZE - 1, 10001, 3);
        sameBadness("OVERFULL", -SIZE + 1, SIZE, 100, 3);
    }

    /** Terms, BAD: "0 if t is 0; 10000 if s is 0". */
    private static void badOfNothing() {
        sameBadness("BAD", 0, 0, 0, 2);
        sameBadness("BAD", 0, SIZE, 0, 2);
        sameBadness("BAD", 1, 0, 10000, 0);
        sameBadness("BAD", 1, 1, 100, 0);
        sameBadness("BAD", SIZE, 0, 10000, 0);
    }

    /** Terms, BAD: "297 * t / s if t is not above 7230584", rounded down. */
    private static void badOfSmallOnes() {
        sameBadness("BAD", 4, 1, 6396, 0);
        sameBadness("BAD", 5, 1, 10000, 0);
        sameBadness("BAD", 50, 297, 0, 2);
        sameBadness("BAD", 51, 297, 1, 2);
        sameBadness("BAD, 50.99", 103, 600, 0, 2);
        sameBadness("BAD, 51", 103, 599, 1, 2);
        sameBadness("BAD", 7230583, 1664717, 8170, 0);
        sameBadness("BAD", 7230584, 1664717, 8170, 0);
        sameBadness("BAD, other than 297 * t / s", 7230585, 1664717, 8189, 0);
        sameBadness("BAD", 7230584, 1663496, 8189, 0);
        sameBadness("BAD", 7230584, SIZE, 0, 2);
    }

    /** Terms, BAD: "t / (s / 297) if s is not below 1663497 (s / 297 is rounded down first), or t". */
    private static void badOfGreatOnes() {
        sameBadness("BAD", 7230585, 1663496, 10000, 0);
        sameBadness("BAD", 7230585, 1663497, 8189, 0);
        sameBadness("BAD", 7230585, 1663498, 8189, 0);
        sameBadness("BAD", 7230585, 1, 10000, 0);
        sameBadness("BAD, t alone", SIZE, 1663496, 10000, 0);
        sameBadness("BAD, 1289.99", 9000109, 2072385, 8170, 0);
        sameBadness("BAD", SIZE, SIZE, 100, 0);
        sameBadness("BAD", SIZE, 247219530, 8170, 0);
        sameBadness("BAD", -7230585, SIZE, 0, 2);
    }

    /** Terms, BAD: "10000 if r is above 1290, else (r * r * r + 131072) / 262144, rounded down". */
    private static void badIsAtMost10000() {
        sameBadness("BAD, 799.99 and rounded", 594, 297, 800, 0);
        sameBadness("BAD", 359, 297, 176, 0);
        sameBadness("BAD", 1289, 297, 8170, 0);
        sameBadness("BAD", 1290, 297, 8189, 0);
        sameBadness("BAD", 1291, 297, 10000, 0);
        sameBadness("BAD", 7230585, 1662309, 10000, 0);
        sameBadness("BAD, r 1290", 7232181, 1663794, 8189, 0);
        sameBadness("BAD, r 1291", 7232182, 1663794, 10000, 0);
    }
}
