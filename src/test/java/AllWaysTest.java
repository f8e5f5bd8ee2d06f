import java.util.Arrays;
import java.util.Random;
import java.util.Set;
import java.util.TreeSet;

/**
 * What it is: "all ways of breaking are weighed by how well the glue of each line fits, how lines
 * stand beside one another, and what it costs to break there; the least demerits win, in up to three
 * passes, with more or fewer lines if that is wished": here they are gone through, one by one.
 *
 * A paragraph is words, each a box, with one thing between two of them: glue, a penalty or a hyphen.
 */
public final class AllWaysTest {
    private static final int NOTHING = LineBreaker.NOTHING;
    private static final int GLUE = 0;
    private static final int PENALTY = 1;
    private static final int HYPHEN = 2;
    /** How often a paragraph was broken in pass 1, 2, 3; 0: in none of them by feasible lines alone. */
    private static final int[] SEEN = new int[4];

    private final Random random;
    private final LineBreaker x = new LineBreaker();
    private final int gaps;
    private final int[] words;
    private final int[][] gap;
    private final int[] values = {100, 200, 10, 50, 50, 10000, 5000, 10000, 0, 0};
    private final int[] widths = new int[4];

    // What one pass finds: by lines and fit the least total of all ways to n, and its nodes.
    private int pass;
    private Set<String> nodes;
    private long[][] least;

    private AllWaysTest(int seed) {
        random = new Random(seed);
        gaps = random.nextInt(10);
        words = new int[gaps + 1];
        gap = new int[gaps][];
    }

    public static void main(String[] args) {
        int runs = args.length > 0 ? Integer.parseInt(args[0]) : 4000;
        for (int seed = 0; seed < runs; seed++) {
            AllWaysTest test = new AllWaysTest(seed);
            test.steer();
            test.write();
            test.compare(seed);
        }
        System.out.println("by pass 1, 2, 3: " + SEEN[1] + ", " + SEEN[2] + ", " + SEEN[3] + "; by none: " + SEEN[0]);
        for (int number = 0; number < 4; number++) {
            Check.same("pass " + number + " was seen", SEEN[number] > runs / 100, true);
        }
        Check.done();
    }

    private int oneOf(int... choices) {
        return choices[random.nextInt(choices.length)];
    }

    private void steer() {
        values[0] = oneOf(-1, 0, 50, 100);
        values[1] = oneOf(50, 200, 1000, 10000);
        values[2] = oneOf(10, 10, 0, -60);
        values[3] = oneOf(50, 0, -40, -10000, 10000);
        values[4] = oneOf(50, 0, -40);
        values[5] = oneOf(10000, 0, -3000);
        values[6] = oneOf(5000, 0, -3000);
        values[7] = oneOf(10000, 0, 1, -3000);
        values[8] = oneOf(0, 0, 5, 20);
        values[9] = oneOf(0, 0, 0, 1, -1, 2);
        for (int which = 0; which < values.length; which++) {
            x.set(which, values[which]);
        }
        for (int i = 0; i < widths.length; i++) {
            widths[i] = oneOf(40, 40, 45, 60);
            x.wide(i, widths[i]);
        }
    }

    private void write() {
        for (int i = 0; i <= gaps; i++) {
            words[i] = oneOf(8, 10, 12, 15, 20);
            x.box(words[i]);
            if (i < gaps) {
                gap[i] = drawnGap();
                add(gap[i]);
            }
        }
    }

    /** Its kind; then width, stretch and shrink, or the penalty, or what stands before and behind. */
    private int[] drawnGap() {
        switch (oneOf(GLUE, GLUE, GLUE, PENALTY, HYPHEN)) {
            case GLUE:
                return new int[] {GLUE, oneOf(5, 6, 8), oneOf(3, 5, 9), oneOf(1, 2, 4)};
            case PENALTY:
                return new int[] {PENALTY, oneOf(0, 20, -20, -10000, 10000, 300), 0, 0};
            default:
                return new int[] {HYPHEN, oneOf(NOTHING, 2, 4), oneOf(NOTHING, 0, 3), 0};
        }
    }

    private void add(int[] g) {
        switch (g[0]) {
            case GLUE -> x.glue(g[1], g[2], 0, g[3]);
            case PENALTY -> x.penalty(g[1]);
            default -> x.hyphen(g[1], g[2], 0);
        }
    }

    private boolean isHyphen(int i) {
        return i >= 0 && i < gaps && gap[i][0] == HYPHEN;
    }

    private int penaltyAt(int i) {
        if (i == gaps) {
            return -10000;
        }
        if (gap[i][0] == HYPHEN) {
            return values[gap[i][1] == NOTHING ? 4 : 3];
        }
        return gap[i][0] == PENALTY ? gap[i][1] : 0;
    }

    private boolean isPlace(int i) {
        return penaltyAt(i) != 10000 && (pass > 1 || !isHyphen(i));
    }

    /** Shortfall, badness and fit of the line from behind one gap, or from -1, to another, or to n. */
    private int[] line(int from, int to, int number) {
        int width = 0;
        int stretch = pass == 3 ? values[8] : 0;
        int shrink = 0;
        for (int i = from + 1; i <= to; i++) {
            width += words[i];
            if (i < to && gap[i][0] == GLUE) {
                width += gap[i][1];
                stretch += gap[i][2];
                shrink += gap[i][3];
            }
        }
        width += isHyphen(from) && gap[from][2] != NOTHING ? gap[from][2] : 0;
        width += isHyphen(to) && gap[to][1] != NOTHING ? gap[to][1] : 0;
        int shortfall = widths[Math.min(number, widths.length - 1)] - width;
        if (shortfall > 0 && to == gaps) {
            return new int[] {shortfall, 0, 2};
        }
        if (-shortfall > shrink) {
            return new int[] {shortfall, 10001, 3};
        }
        int bad = bad(Math.abs(shortfall), shortfall > 0 ? stretch : shrink);
        int fit = bad <= 12 ? 2 : shortfall < 0 ? 3 : bad <= 99 ? 1 : 0;
        return new int[] {shortfall, bad, fit};
    }

    private static int bad(int missing, int give) {
        if (missing == 0 || give == 0) {
            return missing == 0 ? 0 : 10000;
        }
        long r = 297L * missing / give;
        return r > 1290 ? 10000 : (int) ((r * r * r + 131072) / 262144);
    }

    private long demerits(int from, int to, int fitBefore, int[] line) {
        long sum = Math.min(10000, values[2] + line[1]);
        long p = penaltyAt(to);
        long d = sum * sum + (p == -10000 ? 0 : p * Math.abs(p));
        d += isHyphen(from) && isHyphen(to) ? values[5] : 0;
        d += isHyphen(from) && to == gaps ? values[6] : 0;
        return d + (Math.abs(fitBefore - line[2]) > 1 ? values[7] : 0);
    }

    private void goOn(int from, int lines, int fit, long total) {
        for (int to = from + 1; to <= gaps; to++) {
            if (!isPlace(to)) {
                continue;
            }
            int[] line = line(from, to, lines);
            if (line[1] <= values[pass == 1 ? 0 : 1]) {
                arrive(to, lines + 1, line[2], total + demerits(from, to, fit, line));
            }
            if (line[1] == 10001 || penaltyAt(to) == -10000) {
                return;
            }
        }
    }

    private void arrive(int place, int lines, int fit, long total) {
        nodes.add(place + " " + lines + " " + fit);
        if (place == gaps) {
            least[lines][fit] = Math.min(least[lines][fit], total);
        } else {
            goOn(place, lines, fit, total);
        }
    }

    private long leastOf(int lines) {
        long all = Long.MAX_VALUE;
        for (long total : least[lines]) {
            all = Math.min(all, total);
        }
        return all;
    }

    /** How many lines are chosen; 0 when the pass fails. */
    private int run(int number, boolean isLast) {
        pass = number;
        nodes = new TreeSet<>();
        least = new long[gaps + 2][4];
        for (long[] row : least) {
            Arrays.fill(row, Long.MAX_VALUE);
        }
        goOn(-1, 0, 2, 0);
        int best = 0;
        for (int lines = 1; lines <= gaps + 1; lines++) {
            best = leastOf(lines) < leastOf(best) ? lines : best;
        }
        if (best == 0) {
            return 0;
        }
        int wished = best + values[9];
        int chosen = best;
        int step = Integer.signum(values[9]);
        for (int lines = best; lines != wished + step && lines > 0 && lines <= gaps + 1; lines += step) {
            chosen = leastOf(lines) < Long.MAX_VALUE ? lines : chosen;
            if (step == 0) {
                break;
            }
        }
        return chosen == wished || isLast ? chosen : 0;
    }

    private void compare(int seed) {
        int got = x.breakUp();
        int last = values[8] > 0 ? 3 : 2;
        for (int number = values[0] < 0 ? 2 : 1; number <= last; number++) {
            int lines = run(number, number == last);
            if (lines > 0) {
                SEEN[number]++;
                String what = "seed " + seed;
                Check.same(what + ", lines", got, lines);
                Check.same(what + ", pass", x.pass(), number);
                Check.same(what + ", nodes", x.nodes(), nodes.size());
                Check.same(what + ", total", x.total(lines - 1), leastOf(lines));
                int fit = 0;
                while (least[lines][fit] != leastOf(lines)) {
                    fit++;
                }
                Check.same(what + ", the last line's fit", x.line(lines - 1, 4), fit);
                sameLines(what, lines);
                return;
            }
        }
        SEEN[0]++;
        Check.same("seed " + seed + ", a way all the same", x.pass(), last);
    }

    /** The way that was taken: each line of it, and what it cost up to there. */
    private void sameLines(String what, int lines) {
        int from = -1;
        int fit = 2;
        long total = 0;
        for (int i = 0; i < lines; i++) {
            int end = x.line(i, 0);
            int to = end == 2 * gaps + 3 ? gaps : end / 2;
            int[] line = line(from, to, i);
            total += demerits(from, to, fit, line);
            Lines.same(what, x, i, to == gaps ? 2 * gaps + 3 : 2 * to + 1, 2 * (from + 1), line[0], line[1], line[2], total);
            from = to;
            fit = line[2];
        }
    }
}
