import java.util.Arrays;

/**
 * Breaks one paragraph of boxes, glue, kerns, penalties and hyphens into the lines with the least
 * demerits. What each call promises stands in DOC.md.
 */
public final class LineBreaker {
    public static final int NOTHING = -1073741824;
    public static final int FULL = -2;

    private static final int MAX_SIZE = 1073741823;
    private static final int MAX_ITEMS = 400;
    private static final int MAX_REPLACED = 10;
    private static final int MAX_NODES = 8000;
    private static final int LINE_WIDTHS = 20;

    /** A penalty of 10000, the fill, and a penalty of -10000 close every paragraph that is broken. */
    private static final int CLOSING_ITEMS = 3;
    /** Each line ends at another place: all items may be places, and of the closing ones the last. */
    private static final int MAX_LINES = MAX_ITEMS + 1;

    private static final int BOX = 0;
    private static final int GLUE = 1;
    private static final int KERN = 2;
    private static final int EXPLICIT_KERN = 3;
    private static final int PENALTY = 4;
    private static final int HYPHEN = 5;

    private static final int FORBIDDEN = 10000;
    private static final int FORCED = -10000;

    private static final int WORST_BADNESS = 10000;
    private static final int OVERFULL = 10001;

    private static final int VERY_LOOSE = 0;
    private static final int LOOSE = 1;
    private static final int DECENT = 2;
    private static final int TIGHT = 3;
    private static final int FITS = 4;

    private static final int FIRST = 0;
    private static final int TOLERANCE = 1;
    private static final int LINE_PENALTY = 2;
    private static final int HYPHEN_PENALTY = 3;
    private static final int EMPTY_PENALTY = 4;
    private static final int DOUBLE_DEMERITS = 5;
    private static final int FINAL_DEMERITS = 6;
    private static final int ADJACENT_DEMERITS = 7;
    private static final int MORE_STRETCH = 8;
    private static final int LOOSENESS = 9;
    private static final int SETTINGS = 10;

    private static final int[] LEAST_VALUE = {
        -1, 0, -10000, -10000, -10000, -1000000, -1000000, -1000000, 0, -100
    };
    private static final int[] GREATEST_VALUE = {
        10000, 10000, 10000, 10000, 10000, 1000000, 1000000, 1000000, 1073741823, 100
    };

    /** Where a line begins that has no place to break before it. */
    private static final int BEGINNING = -1;
    /** The first node of each pass stands at the beginning, so it can also say "no node". */
    private static final int NO_NODE = 0;

    private final Paragraph paragraph;
    private final Settings settings;
    private final Galley galley;
    private final Search search;
    private final Outcome outcome;

    public LineBreaker() {
        paragraph = new Paragraph();
        settings = new Settings();
        galley = new Galley();
        search = new Search(galley, settings);
        outcome = new Outcome();
    }

    public int box(int width) throws IllegalArgumentException, UnsupportedOperationException {
        requireSize(width);
        requireRoom();
        outcome.forget();
        return paragraph.append(BOX, width);
    }

    public int glue(int width, int stretch, int order, int shrink)
            throws IllegalArgumentException, IllegalStateException, UnsupportedOperationException {
        requireGlue(width, stretch, order, shrink);
        requireNotReplaced();
        requireRoom();
        outcome.forget();
        return paragraph.appendGlue(width, stretch, order, shrink);
    }

    public int kern(int width, boolean explicit)
            throws IllegalArgumentException, UnsupportedOperationException {
        requireSize(width);
        requireRoom();
        outcome.forget();
        return paragraph.append(explicit ? EXPLICIT_KERN : KERN, width);
    }

    public int penalty(int p) throws IllegalStateException, UnsupportedOperationException {
        requireNotReplaced();
        requireRoom();
        outcome.forget();
        return paragraph.appendPenalty(Math.max(FORCED, Math.min(FORBIDDEN, p)));
    }

    public int hyphen(int before, int behind, int replaced)
            throws IllegalArgumentException, IllegalStateException, UnsupportedOperationException {
        requireSizeOrNothing(before);
        requireSizeOrNothing(behind);
        if (replaced < 0 || replaced > MAX_REPLACED) {
            throw new IllegalArgumentException("a hyphen replaces 0 to 10 items");
        }
        requireNotReplaced();
        requireRoom();
        outcome.forget();
        return paragraph.appendHyphen(before, behind, replaced);
    }

    public boolean keep(int n) {
        if (n < 0 || n > paragraph.count) {
            return false;
        }
        paragraph.count = n;
        outcome.forget();
        return true;
    }

    public int items() {
        return paragraph.count;
    }

    public void set(int which, int value) throws IllegalArgumentException {
        if (which < 0 || which >= SETTINGS) {
            throw new IllegalArgumentException("there is no such setting");
        }
        if (value < LEAST_VALUE[which] || value > GREATEST_VALUE[which]) {
            throw new IllegalArgumentException("the value is not within its bounds");
        }
        settings.values[which] = value;
    }

    public void wide(int i, int width) throws IllegalArgumentException {
        if (i < 0 || i >= LINE_WIDTHS) {
            throw new IllegalArgumentException("only lines 0 to 19 have widths of their own");
        }
        requireSize(width);
        for (int line = i; line < LINE_WIDTHS; line++) {
            settings.widths[line] = width;
        }
    }

    public void around(int which, int width, int stretch, int order, int shrink)
            throws IllegalArgumentException {
        if (which < 0 || which > 2) {
            throw new IllegalArgumentException("there is only left, right and the fill");
        }
        requireGlue(width, stretch, order, shrink);
        Glue glue = which == 0 ? settings.left : which == 1 ? settings.right : settings.fill;
        glue.become(width, stretch, order, shrink);
    }

    public int breakUp() throws IllegalStateException, UnsupportedOperationException {
        if (paragraph.awaitsReplaced()) {
            throw new IllegalStateException("a hyphen's replaced items are not all there");
        }
        if (!sumsAreSizes()) {
            throw new UnsupportedOperationException("all sizes together are no size");
        }
        outcome.forget();
        galley.prepare(paragraph, settings);
        int firstPass = settings.values[FIRST] < 0 ? 2 : 1;
        int lastPass = settings.values[MORE_STRETCH] > 0 ? 3 : 2;
        for (int number = firstPass; number <= lastPass; number++) {
            int chosen = search.run(number, number == lastPass);
            if (chosen == FULL) {
                return FULL;
            }
            if (chosen != NO_NODE) {
                outcome.record(search, chosen, number);
                return outcome.count;
            }
        }
        return 0;
    }

    public int pass() {
        return outcome.passNumber;
    }

    public int nodes() {
        return outcome.nodesMade;
    }

    public int line(int i, int what) throws IndexOutOfBoundsException {
        requireLine(i);
        if (what < 0 || what >= Outcome.FACTS) {
            throw new IndexOutOfBoundsException("a line has no such fact");
        }
        return outcome.facts[what][i];
    }

    public long total(int i) throws IndexOutOfBoundsException {
        requireLine(i);
        return outcome.totals[i];
    }

    private boolean sumsAreSizes() {
        long stretch = paragraph.allStretch() + settings.stretchAround() + settings.values[MORE_STRETCH];
        return paragraph.allWidths() + settings.widthsAround() <= MAX_SIZE
                && stretch <= MAX_SIZE
                && paragraph.allShrink() + settings.shrinkAround() <= MAX_SIZE;
    }

    private void requireRoom() {
        if (paragraph.count >= MAX_ITEMS) {
            throw new UnsupportedOperationException("the paragraph has 400 items");
        }
    }

    private void requireNotReplaced() {
        if (paragraph.awaitsReplaced()) {
            throw new IllegalStateException("only boxes and kerns are replaced");
        }
    }

    private void requireLine(int i) {
        if (i < 0 || i >= outcome.count) {
            throw new IndexOutOfBoundsException("there is no such line");
        }
    }

    private static void requireSize(int value) {
        if (!isSize(value)) {
            throw new IllegalArgumentException("that is no size");
        }
    }

    private static void requireSizeOrNothing(int value) {
        if (value != NOTHING && !isSize(value)) {
            throw new IllegalArgumentException("that is neither a size nor nothing");
        }
    }

    private static void requireGlue(int width, int stretch, int order, int shrink) {
        requireSize(width);
        requireSize(stretch);
        requireSize(shrink);
        if (stretch < 0 || shrink < 0) {
            throw new IllegalArgumentException("stretch and shrink are not below 0");
        }
        if (order < 0 || order > 3) {
            throw new IllegalArgumentException("an order is 0 to 3");
        }
    }

    private static boolean isSize(int value) {
        return value >= -MAX_SIZE && value <= MAX_SIZE;
    }

    /** The width of what stands at a hyphen, which is 0 too where nothing stands. */
    private static int widthOf(int mark) {
        return mark == NOTHING ? 0 : mark;
    }

    /** Glue that stands around lines or fills the last one. */
    private static final class Glue {
        int width;
        int stretch;
        int order;
        int shrink;

        Glue(int width, int stretch, int order, int shrink) {
            this.width = width;
            this.stretch = stretch;
            this.order = order;
            this.shrink = shrink;
        }

        void become(int newWidth, int newStretch, int newOrder, int newShrink) {
            width = newWidth;
            stretch = newStretch;
            order = newOrder;
            shrink = newShrink;
        }

        int finiteStretch() {
            return order == 0 ? stretch : 0;
        }

        int endlessStretch() {
            return order == 0 ? 0 : stretch;
        }
    }

    /** All that steers the breaking and is no item. */
    private static final class Settings {
        final int[] values;
        final int[] widths;
        final Glue left;
        final Glue right;
        final Glue fill;

        Settings() {
            values = new int[SETTINGS];
            values[FIRST] = 100;
            values[TOLERANCE] = 200;
            values[LINE_PENALTY] = 10;
            values[HYPHEN_PENALTY] = 50;
            values[EMPTY_PENALTY] = 50;
            values[DOUBLE_DEMERITS] = 10000;
            values[FINAL_DEMERITS] = 5000;
            values[ADJACENT_DEMERITS] = 10000;
            widths = new int[LINE_WIDTHS];
            left = new Glue(0, 0, 0, 0);
            right = new Glue(0, 0, 0, 0);
            fill = new Glue(0, 65536, 1, 0);
        }

        int widthOfLine(int number) {
            return widths[Math.min(number, LINE_WIDTHS - 1)];
        }

        long widthsAround() {
            return (long) Math.abs(left.width) + Math.abs(right.width) + Math.abs(fill.width);
        }

        long stretchAround() {
            return (long) left.stretch + right.stretch + fill.stretch;
        }

        long shrinkAround() {
            return (long) left.shrink + right.shrink + fill.shrink;
        }
    }

    /** The items as they were given, a row for each of their parts. */
    private static final class Paragraph {
        final int[] kind;
        final int[] width;
        final int[] stretch;
        final int[] order;
        final int[] shrink;
        final int[] penalty;
        final int[] before;
        final int[] behind;
        final int[] replaced;
        int count;

        Paragraph() {
            kind = new int[MAX_ITEMS];
            width = new int[MAX_ITEMS];
            stretch = new int[MAX_ITEMS];
            order = new int[MAX_ITEMS];
            shrink = new int[MAX_ITEMS];
            penalty = new int[MAX_ITEMS];
            before = new int[MAX_ITEMS];
            behind = new int[MAX_ITEMS];
            replaced = new int[MAX_ITEMS];
        }

        /** Clears every part that the kind has not: an item that was not kept may have stood there. */
        int append(int newKind, int newWidth) {
            int item = count;
            kind[item] = newKind;
            width[item] = newWidth;
            stretch[item] = 0;
            order[item] = 0;
            shrink[item] = 0;
            penalty[item] = 0;
            before[item] = NOTHING;
            behind[item] = NOTHING;
            replaced[item] = 0;
            count = item + 1;
            return item;
        }

        int appendGlue(int newWidth, int newStretch, int newOrder, int newShrink) {
            int item = append(GLUE, newWidth);
            stretch[item] = newStretch;
            order[item] = newOrder;
            shrink[item] = newShrink;
            return item;
        }

        int appendPenalty(int newPenalty) {
            int item = append(PENALTY, 0);
            penalty[item] = newPenalty;
            return item;
        }

        int appendHyphen(int newBefore, int newBehind, int newReplaced) {
            int item = append(HYPHEN, 0);
            before[item] = newBefore;
            behind[item] = newBehind;
            replaced[item] = newReplaced;
            return item;
        }

        /** No hyphen is replaced, so that only the last one can still be waiting. */
        boolean awaitsReplaced() {
            int lowest = Math.max(0, count - MAX_REPLACED);
            for (int i = count - 1; i >= lowest; i--) {
                if (kind[i] == HYPHEN) {
                    return i + replaced[i] >= count;
                }
            }
            return false;
        }

        int countWithoutLastGlue() {
            return count > 0 && kind[count - 1] == GLUE ? count - 1 : count;
        }

        long allWidths() {
            long sum = 0;
            for (int i = 0; i < count; i++) {
                sum += Math.abs(width[i]);
                sum += Math.abs(widthOf(before[i]));
                sum += Math.abs(widthOf(behind[i]));
            }
            return sum;
        }

        long allStretch() {
            long sum = 0;
            for (int i = 0; i < count; i++) {
                sum += stretch[i];
            }
            return sum;
        }

        long allShrink() {
            long sum = 0;
            for (int i = 0; i < count; i++) {
                sum += shrink[i];
            }
            return sum;
        }
    }

    /**
     * The items as they are broken, with the closing ones. It is a copy, since the closing ones may
     * stand where the paragraph still has its last glue. Sums up to each item make a line's
     * measures cheap; they are no more than sizes, as all sizes together are one.
     */
    private static final class Galley {
        final int[] kind;
        final int[] penalty;
        final boolean[] breakable;
        final int[] first;
        final int[] before;
        final int[] behind;
        final int[] widthUpTo;
        final int[] finiteUpTo;
        final int[] endlessUpTo;
        final int[] shrinkUpTo;
        final int[] nextKept;
        int last;

        Galley() {
            int length = MAX_ITEMS + CLOSING_ITEMS;
            kind = new int[length];
            penalty = new int[length];
            breakable = new boolean[length];
            first = new int[length];
            before = new int[length];
            behind = new int[length];
            widthUpTo = new int[length];
            finiteUpTo = new int[length];
            endlessUpTo = new int[length];
            shrinkUpTo = new int[length];
            nextKept = new int[length + 1];
        }

        void prepare(Paragraph paragraph, Settings settings) {
            int body = paragraph.countWithoutLastGlue();
            last = body + CLOSING_ITEMS - 1;
            copyItems(paragraph, settings, body);
            close(body);
            sumUp(paragraph, settings.fill, body);
            markPlaces(paragraph, body);
            findFirstOnes(paragraph, body);
        }

        boolean isPlace(int i, boolean withHyphens) {
            return breakable[i] && (withHyphens || kind[i] != HYPHEN);
        }

        boolean isHyphen(int place) {
            return place != BEGINNING && kind[place] == HYPHEN;
        }

        int firstOneFrom(int place) {
            return place == BEGINNING ? 0 : first[place];
        }

        int widthBehind(int place) {
            return place == BEGINNING ? 0 : behind[place];
        }

        private void copyItems(Paragraph paragraph, Settings settings, int body) {
            for (int i = 0; i < body; i++) {
                kind[i] = paragraph.kind[i];
                penalty[i] = paragraph.penalty[i];
                if (kind[i] == HYPHEN) {
                    boolean empty = paragraph.before[i] == NOTHING;
                    penalty[i] = settings.values[empty ? EMPTY_PENALTY : HYPHEN_PENALTY];
                }
                before[i] = widthOf(paragraph.before[i]);
                behind[i] = widthOf(paragraph.behind[i]);
            }
        }

        private void close(int body) {
            kind[body] = PENALTY;
            penalty[body] = FORBIDDEN;
            kind[body + 1] = GLUE;
            penalty[body + 1] = 0;
            kind[last] = PENALTY;
            penalty[last] = FORCED;
            for (int i = body; i <= last; i++) {
                before[i] = 0;
                behind[i] = 0;
            }
        }

        private void sumUp(Paragraph paragraph, Glue fill, int body) {
            for (int i = 0; i < body; i++) {
                boolean finite = paragraph.order[i] == 0;
                int stretch = paragraph.stretch[i];
                widthUpTo[i + 1] = widthUpTo[i] + paragraph.width[i];
                finiteUpTo[i + 1] = finiteUpTo[i] + (finite ? stretch : 0);
                endlessUpTo[i + 1] = endlessUpTo[i] + (finite ? 0 : stretch);
                shrinkUpTo[i + 1] = shrinkUpTo[i] + paragraph.shrink[i];
            }
            int beforeFill = body + 1;
            widthUpTo[beforeFill] = widthUpTo[body];
            finiteUpTo[beforeFill] = finiteUpTo[body];
            endlessUpTo[beforeFill] = endlessUpTo[body];
            shrinkUpTo[beforeFill] = shrinkUpTo[body];
            widthUpTo[last] = widthUpTo[beforeFill] + fill.width;
            finiteUpTo[last] = finiteUpTo[beforeFill] + fill.finiteStretch();
            endlessUpTo[last] = endlessUpTo[beforeFill] + fill.endlessStretch();
            shrinkUpTo[last] = shrinkUpTo[beforeFill] + fill.shrink;
        }

        private void markPlaces(Paragraph paragraph, int body) {
            int replacedEnd = 0;
            for (int i = 0; i <= last; i++) {
                breakable[i] = penalty[i] != FORBIDDEN && mayBreak(i, replacedEnd);
                if (i < body && kind[i] == HYPHEN) {
                    replacedEnd = i + 1 + paragraph.replaced[i];
                }
            }
        }

        /** Items before replacedEnd, back to the last hyphen, are replaced. */
        private boolean mayBreak(int i, int replacedEnd) {
            switch (kind[i]) {
                case PENALTY:
                case HYPHEN:
                    return true;
                case GLUE:
                    return i > 0 && (i == replacedEnd || kind[i - 1] == BOX || kind[i - 1] == KERN);
                case EXPLICIT_KERN:
                    return i >= replacedEnd && i < last && kind[i + 1] == GLUE;
                default:
                    return false;
            }
        }

        private void findFirstOnes(Paragraph paragraph, int body) {
            nextKept[last + 1] = last + 1;
            for (int i = last; i >= 0; i--) {
                nextKept[i] = isLeftOut(kind[i]) ? nextKept[i + 1] : i;
                first[i] = nextKept[i];
                if (i < body && kind[i] == HYPHEN) {
                    int next = Math.min(i + 1 + paragraph.replaced[i], last);
                    first[i] = paragraph.behind[i] == NOTHING ? nextKept[next] : next;
                }
            }
        }

        private static boolean isLeftOut(int kind) {
            return kind == GLUE || kind == EXPLICIT_KERN || kind == PENALTY;
        }
    }

    /** Measures one line at a time. */
    private static final class Gauge {
        final Galley galley;
        final Settings settings;
        int moreStretch;
        int shortfall;
        int badness;
        int fit;
        int knownFrom;
        int knownTo;
        int knownWidth;

        Gauge(Galley galley, Settings settings) {
            this.galley = galley;
            this.settings = settings;
        }

        void start(int stretchInEachLine) {
            moreStretch = stretchInEachLine;
            knownTo = BEGINNING;
        }

        /**
         * Nodes at one place follow one another and mostly ask for the same line, so the last
         * answer is kept.
         */
        void measure(int from, int to, int number) {
            int wished = settings.widthOfLine(number);
            if (to == knownTo && from == knownFrom && wished == knownWidth) {
                return;
            }
            knownTo = to;
            knownFrom = from;
            knownWidth = wished;
            Glue left = settings.left;
            Glue right = settings.right;
            int width = left.width + right.width + galley.widthBehind(from) + galley.before[to];
            int finite = left.finiteStretch() + right.finiteStretch() + moreStretch;
            int endless = left.endlessStretch() + right.endlessStretch();
            int shrink = left.shrink + right.shrink;
            int first = galley.firstOneFrom(from);
            if (first < to) {
                width += galley.widthUpTo[to] - galley.widthUpTo[first];
                finite += galley.finiteUpTo[to] - galley.finiteUpTo[first];
                endless += galley.endlessUpTo[to] - galley.endlessUpTo[first];
                shrink += galley.shrinkUpTo[to] - galley.shrinkUpTo[first];
            }
            shortfall = wished - width;
            if (shortfall > 0) {
                judgeStretched(finite, endless);
            } else {
                judgeShrunk(shrink);
            }
        }

        private void judgeStretched(int finite, int endless) {
            badness = endless > 0 ? 0 : bad(shortfall, finite);
            fit = badness > 99 ? VERY_LOOSE : badness > 12 ? LOOSE : DECENT;
        }

        private void judgeShrunk(int shrink) {
            int missing = -shortfall;
            if (shrink < missing) {
                badness = OVERFULL;
                fit = TIGHT;
                return;
            }
            badness = bad(missing, shrink);
            fit = badness > 12 ? TIGHT : DECENT;
        }

        private static int bad(int missing, int give) {
            if (missing <= 0) {
                return 0;
            }
            if (give <= 0) {
                return WORST_BADNESS;
            }
            int ratio = missing;
            if (missing <= 7230584) {
                ratio = 297 * missing / give;
            } else if (give >= 1663497) {
                ratio = missing / (give / 297);
            }
            if (ratio > 1290) {
                return WORST_BADNESS;
            }
            return (ratio * ratio * ratio + 131072) / 262144;
        }
    }

    /** The nodes of one pass: by place, at one place by lines, with as many lines greater fits first. */
    private static final class Nodes {
        final int[] place;
        final int[] lines;
        final int[] fit;
        final int[] former;
        final long[] total;
        int count;

        Nodes() {
            int length = MAX_NODES + 1;
            place = new int[length];
            lines = new int[length];
            fit = new int[length];
            former = new int[length];
            total = new long[length];
        }

        void start() {
            place[NO_NODE] = BEGINNING;
            lines[NO_NODE] = 0;
            fit[NO_NODE] = DECENT;
            former[NO_NODE] = NO_NODE;
            total[NO_NODE] = 0;
            count = NO_NODE + 1;
        }

        boolean isFull() {
            return count > MAX_NODES;
        }

        boolean isBetter(int one, int other) {
            if (total[one] != total[other]) {
                return total[one] < total[other];
            }
            if (lines[one] != lines[other]) {
                return lines[one] < lines[other];
            }
            return fit[one] < fit[other];
        }
    }

    /** The best way to each node of one place, by its lines and fit, before the nodes are made. */
    private static final class Offers {
        static final int NONE = -1;
        final long[] total;
        final int[] former;
        int fewest;
        int most;

        Offers() {
            int length = (MAX_LINES + 1) * FITS;
            total = new long[length];
            former = new int[length];
        }

        void start() {
            Arrays.fill(former, NONE);
            fewest = MAX_LINES;
            most = 0;
        }

        boolean isEmpty() {
            return most < fewest;
        }

        /** Of equal offers the first one stays: nodes come in the order in which ties are decided. */
        void take(int node, int lines, int fit, long newTotal) {
            int slot = lines * FITS + fit;
            if (former[slot] == NONE || newTotal < total[slot]) {
                former[slot] = node;
                total[slot] = newTotal;
            }
            fewest = Math.min(fewest, lines);
            most = Math.max(most, lines);
        }

        /** False when there is no room for all of them. */
        boolean turnInto(Nodes nodes, int place) {
            for (int lines = fewest; lines <= most; lines++) {
                for (int fit = FITS - 1; fit >= 0; fit--) {
                    int slot = lines * FITS + fit;
                    if (former[slot] == NONE) {
                        continue;
                    }
                    if (nodes.isFull()) {
                        return false;
                    }
                    int node = nodes.count;
                    nodes.place[node] = place;
                    nodes.lines[node] = lines;
                    nodes.fit[node] = fit;
                    nodes.former[node] = former[slot];
                    nodes.total[node] = total[slot];
                    nodes.count = node + 1;
                    former[slot] = NONE;
                }
            }
            fewest = MAX_LINES;
            most = 0;
            return true;
        }
    }

    /** One pass after the other over a galley. */
    private static final class Search {
        final Galley galley;
        final Settings settings;
        final Gauge gauge;
        final Nodes nodes;
        final Offers offers;
        final int[] alive;
        int aliveCount;
        int firstAtPlace;
        int tolerance;
        boolean isLast;

        Search(Galley galley, Settings settings) {
            this.galley = galley;
            this.settings = settings;
            gauge = new Gauge(galley, settings);
            nodes = new Nodes();
            offers = new Offers();
            alive = new int[MAX_NODES + 1];
        }

        /** The chosen node, NO_NODE when the pass fails, or FULL. */
        int run(int number, boolean isLastPass) {
            tolerance = settings.values[number == 1 ? FIRST : TOLERANCE];
            isLast = isLastPass;
            gauge.start(number == 3 ? settings.values[MORE_STRETCH] : 0);
            nodes.start();
            offers.start();
            alive[0] = NO_NODE;
            aliveCount = 1;
            for (int place = 0; place <= galley.last && aliveCount > 0; place++) {
                if (galley.isPlace(place, number > 1) && !visit(place)) {
                    return FULL;
                }
            }
            return choose();
        }

        /** False when there are too many nodes. */
        private boolean visit(int place) {
            boolean forced = galley.penalty[place] == FORCED;
            int going = 0;
            int rescued = Offers.NONE;
            for (int i = 0; i < aliveCount; i++) {
                int node = alive[i];
                measureFrom(node, place);
                if (gauge.badness <= tolerance) {
                    offerFrom(node, nodes.total[node] + demerits(node, place));
                }
                if (!forced && gauge.badness != OVERFULL) {
                    alive[going] = node;
                    going++;
                } else if (rescued == Offers.NONE || nodes.lines[node] > nodes.lines[rescued]) {
                    rescued = node;
                }
            }
            aliveCount = going;
            if (isLast && going == 0 && offers.isEmpty() && rescued != Offers.NONE) {
                measureFrom(rescued, place);
                offerFrom(rescued, nodes.total[rescued]);
            }
            return settle(place);
        }

        void measureFrom(int node, int place) {
            gauge.measure(nodes.place[node], place, nodes.lines[node]);
        }

        private void offerFrom(int node, long total) {
            offers.take(node, nodes.lines[node] + 1, gauge.fit, total);
        }

        private boolean settle(int place) {
            firstAtPlace = nodes.count;
            if (!offers.turnInto(nodes, place)) {
                return false;
            }
            for (int node = firstAtPlace; node < nodes.count; node++) {
                alive[aliveCount] = node;
                aliveCount++;
            }
            return true;
        }

        private long demerits(int node, int place) {
            long sum = settings.values[LINE_PENALTY] + gauge.badness;
            long demerits = sum >= 10000 ? 100000000 : sum * sum;
            long p = galley.penalty[place];
            if (p > 0) {
                demerits += p * p;
            } else if (p != FORCED) {
                demerits -= p * p;
            }
            if (galley.isHyphen(nodes.place[node])) {
                if (galley.isHyphen(place)) {
                    demerits += settings.values[DOUBLE_DEMERITS];
                } else if (place == galley.last) {
                    demerits += settings.values[FINAL_DEMERITS];
                }
            }
            if (Math.abs(nodes.fit[node] - gauge.fit) > 1) {
                demerits += settings.values[ADJACENT_DEMERITS];
            }
            return demerits;
        }

        private int choose() {
            if (aliveCount == 0) {
                return NO_NODE;
            }
            int best = firstAtPlace;
            for (int node = firstAtPlace + 1; node < nodes.count; node++) {
                if (nodes.isBetter(node, best)) {
                    best = node;
                }
            }
            int wished = nodes.lines[best] + settings.values[LOOSENESS];
            int chosen = best;
            for (int node = firstAtPlace; node < nodes.count; node++) {
                if (isPreferred(node, chosen, best, wished)) {
                    chosen = node;
                }
            }
            return isLast || nodes.lines[chosen] == wished ? chosen : NO_NODE;
        }

        /** Numbers of lines beyond the wished one, or on the other side of the best one's, are out. */
        private boolean isPreferred(int node, int chosen, int best, int wished) {
            int lines = nodes.lines[node];
            int fewest = Math.min(nodes.lines[best], wished);
            int most = Math.max(nodes.lines[best], wished);
            if (lines < fewest || lines > most) {
                return false;
            }
            int away = Math.abs(lines - wished);
            int chosenAway = Math.abs(nodes.lines[chosen] - wished);
            return away < chosenAway || away == chosenAway && nodes.isBetter(node, chosen);
        }
    }

    /** The lines of a broken paragraph; kept apart, as later settings must not change them. */
    private static final class Outcome {
        static final int END = 0;
        static final int FIRST_ONE = 1;
        static final int SHORTFALL = 2;
        static final int BADNESS = 3;
        static final int FIT = 4;
        static final int FACTS = 5;
        final int[][] facts;
        final long[] totals;
        int count;
        int passNumber;
        int nodesMade;

        Outcome() {
            facts = new int[FACTS][MAX_LINES];
            totals = new long[MAX_LINES];
        }

        void forget() {
            count = 0;
            passNumber = 0;
            nodesMade = 0;
        }

        void record(Search search, int chosen, int number) {
            Nodes nodes = search.nodes;
            count = nodes.lines[chosen];
            passNumber = number;
            nodesMade = nodes.count - 1;
            int node = chosen;
            for (int i = count - 1; i >= 0; i--) {
                int former = nodes.former[node];
                search.measureFrom(former, nodes.place[node]);
                facts[END][i] = nodes.place[node];
                facts[FIRST_ONE][i] = search.galley.firstOneFrom(nodes.place[former]);
                facts[SHORTFALL][i] = search.gauge.shortfall;
                facts[BADNESS][i] = search.gauge.badness;
                facts[FIT][i] = search.gauge.fit;
                totals[i] = nodes.total[node];
                node = former;
            }
        }
    }
}
