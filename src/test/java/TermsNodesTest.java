/** Terms, "NODE", "ALIVE", "FEASIBLE", "ITS DEMERITS", "TOTAL" and "LAST PASS": each sentence with a boundary. */
public final class TermsNodesTest {
    private static final int NOTHING = Build.NOTHING;

    public static void main(String[] args) {
        beginning();
        forcedBetween();
        overfullBetween();
        overfullAtE();
        numberOneMore();
        numberOfEachNode();
        feasible();
        lineAndBadness();
        penaltySquared();
        doubleAndFinal();
        adjacent();
        nodesAtE();
        leastTotal();
        formerOfLeastPlace();
        formerOfGreatestFit();
        lastPassOnly();
        lastPassAllEnd();
        lastPassNoneFeasible();
        lastPassMostLines();
        lastPassLeastPlace();
        lastPassGreatestFit();
        lastPassFit();
        Check.done();
    }

    /** Terms, NODE: "the BEGINNING is one, with 0 lines and fit 2, and total 0". */
    private static void beginning() {
        for (int fit = 0; fit < 4; fit++) {
            LineBreaker x = linesOfFit(fit, 2);
            x.set(2, 0);
            x.breakUp();
            int badness = badnessOf(fit);
            Check.same("BEGINNING, its fit is 2, the line's " + fit, x.total(0),
                    badness * badness + (fit == 0 ? 10000 : 0));
        }
        LineBreaker x = new LineBreaker();
        x.wide(0, 7);
        x.wide(1, 9);
        x.breakUp();
        Check.same("BEGINNING, its line is number 0", x.line(0, 2), 7);
    }

    /** Two lines of such fits, each 1000 wide, and a third that is as wide as it should be. */
    private static LineBreaker linesOfFit(int one, int other) {
        LineBreaker x = new LineBreaker();
        x.wide(0, 1000);
        for (int fit : new int[] {one, other}) {
            int width = fit == 0 ? 900 : fit == 1 ? 920 : fit == 2 ? 1000 : 1080;
            Build.forcedLine(x, width, 100, 100);
        }
        x.box(1000);
        return x;
    }

    private static int badnessOf(int fit) {
        return fit == 0 ? 100 : fit == 2 ? 0 : 51;
    }

    /** Terms, ALIVE: "if no place between is forced". */
    private static void forcedBetween() {
        LineBreaker x = Build.made("bpbfbpb");
        x.breakUp();
        Check.same("ALIVE, 1 node, 2 at the forced place, 2 behind it, 3 at n", x.nodes(), 1 + 2 + 2 + 3);
        LineBreaker y = Build.made("bpbpbpb");
        y.breakUp();
        Check.same("ALIVE, without a forced one", y.nodes(), 1 + 2 + 3 + 4);
        LineBreaker z = Build.made("bffb");
        Check.same("ALIVE, one forced behind the other", z.breakUp(), 3);
        Check.same("ALIVE, one forced behind the other", z.nodes(), 3);
    }

    /** 10 is the width; a line of 10 and these, up to a place; then comes what makes it 10 again. */
    private static LineBreaker stepped(int over, int shrink, String between) {
        LineBreaker x = new LineBreaker();
        x.set(1, 0);
        x.wide(0, 10);
        x.penalty(10000);
        x.glue(0, 0, 0, shrink);
        x.box(10 + over);
        Build.append(x, between);
        x.box(-over);
        x.penalty(-10000);
        x.box(10);
        return x;
    }

    /** Terms, ALIVE: "or makes the line from it .. overfull": one more than it can shrink is too much. */
    private static void overfullBetween() {
        for (int shrink = 0; shrink < 4; shrink++) {
            for (int over = 0; over < 6; over++) {
                LineBreaker x = stepped(over, shrink, "p");
                boolean dies = over > shrink;
                Check.same("ALIVE, " + over + " over, shrink " + shrink, x.breakUp(), dies ? 3 : 2);
                Check.same("ALIVE, " + over + " over, shrink " + shrink, x.line(0, 0), dies ? 3 : 5);
            }
        }
        Check.same("ALIVE, no place between", stepped(5, 0, "x").breakUp(), 2);
        Check.same("ALIVE, no place between", stepped(5, 0, "b").breakUp(), 2);
        Check.same("ALIVE, glue between is one", stepped(5, 0, "g").breakUp(), 3);
        LineBreaker x = stepped(5, 0, "0");
        Check.same("ALIVE, a hyphen is none in the first pass", x.breakUp(), 2);
        Check.same("ALIVE, a hyphen is none in the first pass", x.pass(), 1);
        x.set(0, -1);
        Check.same("ALIVE, but in the second", x.breakUp(), 3);
    }

    /** Terms, ALIVE: "(A line that is overfull at E itself, or a forced E, ends it there.)" */
    private static void overfullAtE() {
        LineBreaker x = new LineBreaker();
        x.wide(0, 10);
        x.box(10);
        x.penalty(0);
        x.box(1);
        x.penalty(0);
        x.box(-1);
        x.penalty(0);
        x.breakUp();
        Check.same("ALIVE, the beginning ends at the second place", x.nodes(), 1 + 1);
        Check.same("ALIVE, so that its line can't be the third one's", x.line(0, 0), 1);
        LineBreaker y = Build.made("bfb");
        y.breakUp();
        Check.same("ALIVE, a forced E still has a line to it", y.line(0, 0), 1);
        Check.same("ALIVE, but none beyond", y.nodes(), 2);
    }

    /** Terms, ALIVE: "the line from it, with its number 1 more": its width is that of this number. */
    private static void numberOneMore() {
        LineBreaker x = new LineBreaker();
        x.set(0, 10000);
        x.wide(0, 10);
        x.wide(1, 20);
        x.wide(2, 5);
        for (int i = 0; i < 3; i++) {
            x.box(10);
            x.penalty(0);
        }
        Check.same("ALIVE, 10 and then 20 fit", x.breakUp(), 2);
        Check.same("ALIVE, line 0", x.line(0, 2), 0);
        Check.same("ALIVE, line 1", x.line(1, 2), 0);
        Check.same("ALIVE, line 2 would be too narrow", x.nodes(), 1 + 1 + 1 + 2);
    }

    /**
     * Terms, ALIVE: nodes at one place with other numbers of lines: lines 1 and 2 have no items'
     * width, and are feasible only if they should have none.
     */
    private static void numberOfEachNode() {
        for (int second : new int[] {-1, 0, 1}) {
            for (int third : new int[] {-1, 0, 1}) {
                LineBreaker x = Build.made("bpbpbfb");
                x.wide(1, second);
                x.wide(2, third);
                x.around(2, 0, 0, 0, 0);
                x.breakUp();
                String what = "ALIVE, widths 0, " + second + ", " + third;
                Check.same(what, x.pass(), second == 0 ? 1 : 2);
                if (second == 0) {
                    int due = third == 0 ? 1 + 2 + 3 + 3 : 1 + 2 + 2 + 1;
                    Check.same(what, x.nodes(), due);
                }
            }
        }
        LineBreaker x = Build.made("bpbp");
        x.box(3);
        Build.append(x, "fb");
        x.around(0, 0, 1, 1, 0);
        x.wide(1, 5);
        x.wide(2, 0);
        x.breakUp();
        Check.same("ALIVE, from one place line 1 has room, but line 2 is overfull", x.nodes(), 1 + 2 + 1 + 1);
    }

    /** Terms, FEASIBLE: "if its badness is not above the pass's TOLERANCE": at it, below, above. */
    private static void feasible() {
        for (int tolerance : new int[] {98, 99, 100, 101}) {
            LineBreaker x = Build.loose(297, 297);
            x.set(0, tolerance);
            x.set(1, tolerance);
            x.set(8, 1);
            x.breakUp();
            Check.same("FEASIBLE, 100 with " + tolerance, x.pass(), tolerance >= 100 ? 1 : 3);
            x.set(0, -1);
            x.breakUp();
            Check.same("FEASIBLE, 100 with " + tolerance, x.pass(), tolerance >= 100 ? 2 : 3);
        }
    }

    /** The demerits of line 0, which has badness 100, up to a place with such a penalty. */
    private static long demeritsOf(int linePenalty, int penalty) {
        LineBreaker x = new LineBreaker();
        x.set(0, 10000);
        x.set(2, linePenalty);
        x.set(7, 0);
        x.wide(0, 1000);
        x.penalty(10000);
        x.glue(0, 1000, 0, 0);
        x.box(0);
        x.penalty(penalty);
        x.box(0);
        x.breakUp();
        if (x.line(0, 0) != 3) {
            x.set(9, 1);
            x.breakUp();
        }
        Check.same("DEMERITS, it ends there", x.line(0, 0), 3);
        return x.total(0);
    }

    /** Terms, DEMERITS: "l + b squared (100000000, if that sum is 10000 or more)". */
    private static void lineAndBadness() {
        for (int sum : new int[] {-9900, -9899, -1, 0, 1, 110, 9998, 9999}) {
            Check.same("DEMERITS, sum " + sum, demeritsOf(sum - 100, 0), (long) sum * sum);
        }
        for (int sum : new int[] {10000, 10001, 10100}) {
            Check.same("DEMERITS, sum " + sum, demeritsOf(sum - 100, 0), 100000000);
        }
        for (int l : new int[] {-10000, -1, 0, 1, 10000}) {
            LineBreaker x = Build.loose(1, 0);
            x.set(0, 10000);
            x.set(2, l);
            x.set(7, 0);
            x.breakUp();
            long sum = 10000 + l;
            Check.same("DEMERITS, 10000 and " + l, x.total(0), sum >= 10000 ? 100000000 : sum * sum);
        }
    }

    /** Terms, DEMERITS: "p * p more, if it is above 0; p * p less, if it is below 0 but not forced". */
    private static void penaltySquared() {
        for (int p : new int[] {-9999, -9998, -1, 0, 1, 9998, 9999}) {
            Check.same("DEMERITS, p " + p, demeritsOf(10, p), 12100 + (long) p * Math.abs(p));
        }
        Check.same("DEMERITS, forced", demeritsOf(10, -10000), 12100);
        LineBreaker x = new LineBreaker();
        x.breakUp();
        Check.same("DEMERITS, n is forced", x.total(0), 100);
    }

    /** Terms, DEMERITS: "DOUBLE .., if the node and E are hyphens", "FINAL .. and E is the last place n". */
    private static void doubleAndFinal() {
        String[] parts = {"ff", "f0", "0f", "00"};
        for (String part : parts) {
            LineBreaker x = new LineBreaker();
            x.set(0, -1);
            x.set(3, -10000);
            x.set(5, 300);
            x.set(6, 7000);
            Build.append(x, "b" + part.charAt(0) + "b" + part.charAt(1) + "b");
            Check.same("DEMERITS, " + part, x.breakUp(), 3);
            Check.same("DEMERITS, the beginning is no hyphen", x.total(0), 100);
            Check.same("DEMERITS, double, " + part, x.total(1) - x.total(0), part.equals("00") ? 400 : 100);
            Check.same("DEMERITS, final, " + part, x.total(2) - x.total(1), part.charAt(1) == '0' ? 7100 : 100);
        }
        LineBreaker x = new LineBreaker();
        x.set(0, -1);
        x.set(3, -10000);
        x.set(6, 7000);
        Build.append(x, "b0bfb");
        x.breakUp();
        Check.same("DEMERITS, forced, but not n", x.total(1) - x.total(0), 100);
        LineBreaker y = new LineBreaker();
        y.set(0, -1);
        y.set(4, -10000);
        y.hyphen(NOTHING, NOTHING, 0);
        y.hyphen(NOTHING, NOTHING, 0);
        y.box(0);
        y.breakUp();
        Check.same("DEMERITS, empty ones are hyphens too", y.total(1) - y.total(0), 100 + 10000);
        Check.same("DEMERITS, empty ones are hyphens too", y.total(2) - y.total(1), 100 + 5000);
    }

    /** Terms, DEMERITS: "the ADJACENT ones more, if the fits of the node and the line differ by more than 1". */
    private static void adjacent() {
        for (int one = 0; one < 4; one++) {
            for (int other = 0; other < 4; other++) {
                LineBreaker x = linesOfFit(one, other);
                x.set(7, 777);
                x.breakUp();
                Check.same("DEMERITS, fit", x.line(0, 4), one);
                Check.same("DEMERITS, fit", x.line(1, 4), other);
                int sum = 10 + badnessOf(other);
                Check.same("DEMERITS, fits " + one + " and " + other, x.total(1) - x.total(0),
                        sum * sum + (Math.abs(one - other) > 1 ? 777 : 0));
                Check.same("DEMERITS, fits " + other + " and 2", x.total(2) - x.total(1),
                        100 + (other == 0 ? 777 : 0));
            }
        }
    }

    /**
     * Lines of 100 (badness 0) and ones that have badness 100, which with a line penalty of -50 cost
     * the same: from the beginning to a place at 100 and on to one at 200 and so much, or to a place
     * at 100 and so much and on to that one. So there are two nodes at that place, with two lines,
     * the same total and different fits.
     */
    private static LineBreaker twoFits(int more) {
        LineBreaker x = new LineBreaker();
        x.set(2, -50);
        x.set(7, 0);
        x.wide(0, 100);
        x.box(100);
        x.penalty(0);
        x.box(0);
        x.penalty(10000);
        x.glue(more, 10, 0, 10);
        x.penalty(0);
        x.box(100);
        x.penalty(0);
        return x;
    }

    /** Terms, TOTAL: "The nodes at E are all those for which there is a feasible line from a node before." */
    private static void nodesAtE() {
        for (int more : new int[] {10, -10}) {
            LineBreaker x = twoFits(more);
            x.box(100);
            Check.same("NODES", x.breakUp(), 3);
            Check.same("NODES, two at the third place, one at each other", x.nodes(), 1 + 1 + 2 + 1);
        }
        LineBreaker x = Build.made("bppb");
        x.breakUp();
        Check.same("NODES, of 1, of 1 and 2, of 1, 2 and 3 lines", x.nodes(), 1 + 2 + 3);
    }

    /** Terms, TOTAL: "the least one of the total of a node before and the demerits of a feasible line from it". */
    private static void leastTotal() {
        for (int p : new int[] {19, 20, 21}) {
            LineBreaker x = new LineBreaker();
            x.set(9, 1);
            x.box(0);
            x.penalty(20);
            x.box(0);
            x.penalty(p);
            x.box(0);
            Check.same("TOTAL", x.breakUp(), 2);
            Check.same("TOTAL, the place of 20 or that of " + p, x.line(0, 0), p < 20 ? 3 : 1);
            Check.same("TOTAL", x.total(1), 200 + Math.min(400, p * p));
        }
    }

    /** Terms, TOTAL: "of several with the same total the one whose place is least". */
    private static void formerOfLeastPlace() {
        for (int p : new int[] {-5, 0, 5}) {
            LineBreaker x = new LineBreaker();
            for (int i = 0; i < 4; i++) {
                x.box(0);
                x.penalty(p);
            }
            x.box(0);
            for (int more = 1; more < 5; more++) {
                x.set(9, more);
                Check.same("FORMER, lines", x.breakUp(), more + 1);
                for (int i = 0; i < more; i++) {
                    Check.same("FORMER, of equal ones the least place, line " + i, x.line(i, 0), 2 * i + 1);
                }
            }
        }
    }

    /** Terms, TOTAL: "of these the one with the greatest fit": be its own former one at the lesser place or not. */
    private static void formerOfGreatestFit() {
        LineBreaker x = twoFits(10);
        x.box(100);
        x.breakUp();
        Check.same("FORMER, fits 3 and 2", x.line(1, 4), 3);
        Lines.same("FORMER, by way of the first place", x, 0, 1, 0, 0, 0, 2, 2500);
        LineBreaker y = twoFits(-10);
        y.box(100);
        y.breakUp();
        Check.same("FORMER, fits 0 and 2", y.line(1, 4), 2);
        Lines.same("FORMER, by way of the second place", y, 0, 5, 0, 10, 100, 0, 2500);
    }

    /** Terms, LAST PASS: not in one that is not the last. */
    private static void lastPassOnly() {
        LineBreaker x = Build.made("b");
        x.wide(0, -1);
        x.breakUp();
        Check.same("LAST PASS is the second", x.pass(), 2);
        Lines.same("LAST PASS", x, 0, 3, 0, -1, 10001, 3, 0);
        x.set(8, 1);
        x.breakUp();
        Check.same("LAST PASS is the third", x.pass(), 3);
        Lines.same("LAST PASS", x, 0, 3, 0, -1, 10001, 3, 0);
    }

    /** Terms, LAST PASS: "and all nodes that are alive at E (one at least) end there". */
    private static void lastPassAllEnd() {
        for (int width : new int[] {9, 10, 11}) {
            LineBreaker x = new LineBreaker();
            x.set(0, -1);
            x.set(1, 0);
            x.wide(0, 10);
            x.box(width);
            x.penalty(0);
            x.box(10 - width);
            x.penalty(-10000);
            x.box(10);
            String what = "LAST PASS, a line of " + width;
            Check.same(what, x.breakUp(), width > 10 ? 3 : 2);
            Check.same(what + " ends at the first place", x.line(0, 0), width > 10 ? 1 : 3);
            Check.same(what, x.total(0), width > 10 ? 0 : 100);
        }
        LineBreaker x = new LineBreaker();
        x.set(0, -1);
        x.set(1, 0);
        x.wide(0, 20);
        x.wide(1, 10);
        x.box(10);
        x.penalty(0);
        x.box(11);
        x.penalty(0);
        x.box(-1);
        x.breakUp();
        Check.same("LAST PASS, it ends the beginning, which is the only one alive", x.line(0, 0), 3);
        x.wide(0, 10);
        x.wide(1, 12);
        x.breakUp();
        Check.same("LAST PASS, the beginning ends, but not the node behind it", x.line(1, 0), 7);
    }

    /** Terms, LAST PASS: "if no line to E is feasible": one that is leaves the others without a node. */
    private static void lastPassNoneFeasible() {
        LineBreaker x = new LineBreaker();
        x.set(0, -1);
        x.wide(0, 10);
        x.box(10);
        x.penalty(0);
        x.box(10);
        x.penalty(-10000);
        x.box(10);
        Check.same("LAST PASS", x.breakUp(), 3);
        Check.same("LAST PASS, only feasible ones", x.nodes(), 3);
        Check.same("LAST PASS, with demerits", x.total(2), 300);
        x.set(9, -1);
        Check.same("LAST PASS, no other number of lines", x.breakUp(), 3);
    }

    /** Terms, LAST PASS: "its former one is, of those, the one with the most lines", at whatever total. */
    private static void lastPassMostLines() {
        LineBreaker x = new LineBreaker();
        x.set(0, -1);
        x.set(1, 10000);
        x.wide(0, 10);
        x.box(5);
        x.penalty(0);
        x.box(5);
        x.penalty(0);
        x.box(30);
        x.penalty(0);
        x.box(10);
        Check.same("LAST PASS, most lines", x.breakUp(), 4);
        Lines.same("LAST PASS, most lines", x, 0, 1, 0, 5, 10000, 0, 100010000);
        Lines.same("LAST PASS, most lines", x, 1, 3, 2, 5, 10000, 0, 200010000);
        Lines.same("LAST PASS, its line's demerits are 0", x, 2, 5, 4, -20, 10001, 3, 200010000);
        Lines.same("LAST PASS, and then go on", x, 3, 9, 6, 0, 0, 2, 200010100);
        Check.same("LAST PASS, one node there", x.nodes(), 1 + 2 + 1 + 1);
    }

    /** Terms, LAST PASS: "of these the one whose place is least", at whatever total. */
    private static void lastPassLeastPlace() {
        LineBreaker x = new LineBreaker();
        x.set(0, -1);
        x.around(0, 0, 2, 0, 0);
        x.wide(0, 10);
        x.box(8);
        x.penalty(0);
        x.box(2);
        x.penalty(0);
        x.box(30);
        x.penalty(0);
        x.box(10);
        Check.same("LAST PASS, least place", x.breakUp(), 3);
        Lines.same("LAST PASS, least place", x, 0, 1, 0, 2, 100, 0, 22100);
        Lines.same("LAST PASS, least place", x, 1, 5, 2, -22, 10001, 3, 22100);
    }

    /** Terms, LAST PASS: "of these the one with the greatest fit". */
    private static void lastPassGreatestFit() {
        for (int more : new int[] {10, -10}) {
            LineBreaker x = twoFits(more);
            x.box(150);
            x.penalty(0);
            x.box(100);
            Check.same("LAST PASS, greatest fit", x.breakUp(), 4);
            Check.same("LAST PASS, greatest fit", x.line(1, 4), more > 0 ? 3 : 2);
            Check.same("LAST PASS, greatest fit", x.line(0, 0), more > 0 ? 1 : 5);
            Check.same("LAST PASS, no demerits", x.total(2), 5000);
            Check.same("LAST PASS, overfull", x.line(2, 2), -50);
        }
    }

    /**
     * Terms, LAST PASS: the node's fit is that of its line, which is overfull here (3), not that of
     * the other line to E, which is too short (0): so the next line, of fit 2, is not far from it.
     */
    private static void lastPassFit() {
        LineBreaker x = new LineBreaker();
        x.set(0, -1);
        x.wide(0, 10);
        x.wide(1, 8);
        x.box(10);
        x.penalty(10000);
        x.glue(0, 0, 0, 4);
        x.box(0);
        x.penalty(0);
        x.box(4);
        x.penalty(0);
        x.box(5);
        x.penalty(-10000);
        x.box(8);
        Check.same("LAST PASS, its fit", x.breakUp(), 3);
        Lines.same("LAST PASS, its fit", x, 0, 4, 0, 0, 0, 2, 100);
        Lines.same("LAST PASS, its fit", x, 1, 8, 5, -1, 10001, 3, 100);
        Lines.same("LAST PASS, its fit", x, 2, 12, 9, 0, 0, 2, 200);
    }
}
