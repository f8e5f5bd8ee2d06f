import java.util.ArrayList;
import java.util.Arrays;
import java.util.Comparator;
import java.util.List;

/**
 * The document's words, taken one by one and without any cleverness: lines are summed up item by
 * item, and whether a node is alive is asked anew at each place. It is the measure for the class.
 */
final class Definition {
    static final int NOTHING = -1073741824;
    static final int FULL = -2;
    private static final int SIZE = 1073741823;

    private enum Kind { BOX, GLUE, KERN, EXPLICIT, PENALTY, HYPHEN }

    private record Item(Kind kind, int width, int stretch, int order, int shrink, int before, int behind,
            int replaced, int penalty) {
        static Item plain(Kind kind, int width) {
            return new Item(kind, width, 0, 0, 0, NOTHING, NOTHING, 0, 0);
        }

        static Item glue(int width, int stretch, int order, int shrink) {
            return new Item(Kind.GLUE, width, stretch, order, shrink, NOTHING, NOTHING, 0, 0);
        }

        static Item penalty(int p) {
            return new Item(Kind.PENALTY, 0, 0, 0, 0, NOTHING, NOTHING, 0, p);
        }

        boolean isDiscarded() {
            return kind == Kind.GLUE || kind == Kind.EXPLICIT || kind == Kind.PENALTY;
        }
    }

    private record Node(int place, int lines, int fit, long total, Node former, Line line) {
    }

    private record Line(int end, int first, int shortfall, int badness, int fit) {
    }

    private List<Item> paragraph = new ArrayList<>();
    private final int[] values = {100, 200, 10, 50, 50, 10000, 5000, 10000, 0, 0};
    private final int[] widths = new int[20];
    private final Item[] around = {Item.glue(0, 0, 0, 0), Item.glue(0, 0, 0, 0), Item.glue(0, 65536, 1, 0)};

    private List<Node> broken = new ArrayList<>();
    private int passNumber = 0;
    private int nodesMade = 0;

    // What one pass works with.
    private List<Item> items;
    private int n;
    private int pass;
    private List<Node> made;

    int box(int width) {
        return addAfter(isSize(width), false, Item.plain(Kind.BOX, width));
    }

    int glue(int width, int stretch, int order, int shrink) {
        return addAfter(isGlue(width, stretch, order, shrink), true, Item.glue(width, stretch, order, shrink));
    }

    int kern(int width, boolean explicit) {
        return addAfter(isSize(width), false, Item.plain(explicit ? Kind.EXPLICIT : Kind.KERN, width));
    }

    int penalty(int p) {
        return addAfter(true, true, Item.penalty(p < -10000 ? -10000 : p > 10000 ? 10000 : p));
    }

    int hyphen(int before, int behind, int replaced) {
        boolean fine = (before == NOTHING || isSize(before)) && (behind == NOTHING || isSize(behind))
                && replaced >= 0 && replaced <= 10;
        return addAfter(fine, true, new Item(Kind.HYPHEN, 0, 0, 0, 0, before, behind, replaced, 0));
    }

    private int addAfter(boolean fine, boolean neverReplaced, Item item) {
        if (!fine) {
            throw new IllegalArgumentException();
        }
        if (neverReplaced && hyphenThatReplaces(paragraph, paragraph.size()) >= 0) {
            throw new IllegalStateException();
        }
        if (paragraph.size() == 400) {
            throw new UnsupportedOperationException();
        }
        unbreak();
        paragraph.add(item);
        return paragraph.size() - 1;
    }

    boolean keep(int count) {
        if (count < 0 || count > paragraph.size()) {
            return false;
        }
        paragraph = new ArrayList<>(paragraph.subList(0, count));
        unbreak();
        return true;
    }

    int items() {
        return paragraph.size();
    }

    void set(int which, int value) {
        int[] bound = {10000, 10000, 10000, 10000, 10000, 1000000, 1000000, 1000000, SIZE, 100};
        if (which < 0 || which > 9) {
            throw new IllegalArgumentException();
        }
        int least = which == 0 ? -1 : which == 1 || which == 8 ? 0 : -bound[which];
        if (value < least || value > bound[which]) {
            throw new IllegalArgumentException();
        }
        values[which] = value;
    }

    void wide(int i, int width) {
        if (i < 0 || i > 19 || !isSize(width)) {
            throw new IllegalArgumentException();
        }
        for (int k = i; k < 20; k++) {
            widths[k] = width;
        }
    }

    void around(int which, int width, int stretch, int order, int shrink) {
        if (which < 0 || which > 2 || !isGlue(width, stretch, order, shrink)) {
            throw new IllegalArgumentException();
        }
        around[which] = Item.glue(width, stretch, order, shrink);
    }

    int breakUp() {
        if (hyphenThatReplaces(paragraph, paragraph.size()) >= 0) {
            throw new IllegalStateException();
        }
        if (!togetherAreSizes()) {
            throw new UnsupportedOperationException();
        }
        unbreak();
        close();
        int last = values[8] > 0 ? 3 : 2;
        for (pass = values[0] < 0 ? 2 : 1; pass <= last; pass++) {
            if (!makeNodes(pass == last)) {
                return FULL;
            }
            Node chosen = choose(pass == last);
            if (chosen != null) {
                for (Node node = chosen; node.former != null; node = node.former) {
                    broken.add(0, node);
                }
                passNumber = pass;
                nodesMade = made.size() - 1;
                return broken.size();
            }
        }
        return 0;
    }

    int pass() {
        return passNumber;
    }

    int nodes() {
        return nodesMade;
    }

    /** Not of the face: how many lines there are, 0 when it is not broken. */
    int lines() {
        return broken.size();
    }

    int line(int i, int what) {
        if (i < 0 || i >= broken.size() || what < 0 || what > 4) {
            throw new IndexOutOfBoundsException();
        }
        Line line = broken.get(i).line;
        return new int[] {line.end, line.first, line.shortfall, line.badness, line.fit}[what];
    }

    long total(int i) {
        if (i < 0 || i >= broken.size()) {
            throw new IndexOutOfBoundsException();
        }
        return broken.get(i).total;
    }

    private void unbreak() {
        broken = new ArrayList<>();
        passNumber = 0;
        nodesMade = 0;
    }

    private boolean togetherAreSizes() {
        long width = 0;
        long stretch = values[8];
        long shrink = 0;
        List<Item> all = new ArrayList<>(paragraph);
        all.addAll(Arrays.asList(around));
        for (Item item : all) {
            width += Math.abs((long) item.width);
            width += item.before == NOTHING ? 0 : Math.abs((long) item.before);
            width += item.behind == NOTHING ? 0 : Math.abs((long) item.behind);
            stretch += item.stretch;
            shrink += item.shrink;
        }
        return width <= SIZE && stretch <= SIZE && shrink <= SIZE;
    }

    private void close() {
        items = new ArrayList<>(paragraph);
        if (!items.isEmpty() && items.get(items.size() - 1).kind == Kind.GLUE) {
            items.remove(items.size() - 1);
        }
        items.add(Item.penalty(10000));
        items.add(around[2]);
        items.add(Item.penalty(-10000));
        n = items.size() - 1;
    }

    /** The hyphen that replaces item i, or -1; i may stand behind the list. */
    private static int hyphenThatReplaces(List<Item> list, int i) {
        for (int h = 0; h < i && h < list.size(); h++) {
            if (list.get(h).kind == Kind.HYPHEN && i <= h + list.get(h).replaced) {
                return h;
            }
        }
        return -1;
    }

    private boolean isPlace(int i) {
        Item item = items.get(i);
        if (hyphenThatReplaces(items, i) >= 0 || penaltyOf(i) == 10000) {
            return false;
        }
        switch (item.kind) {
            case GLUE:
                if (i == 0) {
                    return false;
                }
                int h = hyphenThatReplaces(items, i - 1);
                Kind former = items.get(h >= 0 ? h : i - 1).kind;
                return former == Kind.BOX || former == Kind.HYPHEN || former == Kind.KERN;
            case EXPLICIT:
                return items.get(i + 1).kind == Kind.GLUE;
            case PENALTY:
                return true;
            case HYPHEN:
                return pass > 1;
            default:
                return false;
        }
    }

    private int penaltyOf(int i) {
        Item item = items.get(i);
        if (item.kind == Kind.HYPHEN) {
            return item.before == NOTHING ? values[4] : values[3];
        }
        return item.penalty;
    }

    private int firstOne(int a) {
        if (a < 0) {
            return 0;
        }
        int k = a;
        if (items.get(a).kind == Kind.HYPHEN) {
            k = a + 1 + items.get(a).replaced;
            if (items.get(a).behind != NOTHING) {
                return k;
            }
        }
        while (k <= n && items.get(k).isDiscarded()) {
            k++;
        }
        return k;
    }

    private Line lineFrom(Node node, int e) {
        int a = node.place;
        int first = firstOne(a);
        List<Item> parts = new ArrayList<>(List.of(around[0], around[1]));
        if (a >= 0 && items.get(a).kind == Kind.HYPHEN && items.get(a).behind != NOTHING) {
            parts.add(Item.plain(Kind.BOX, items.get(a).behind));
        }
        for (int i = first; i < e; i++) {
            parts.add(items.get(i));
        }
        if (items.get(e).kind == Kind.HYPHEN && items.get(e).before != NOTHING) {
            parts.add(Item.plain(Kind.BOX, items.get(e).before));
        }
        long width = 0;
        long[] stretch = {pass == 3 ? values[8] : 0, 0, 0, 0};
        long shrink = 0;
        for (Item part : parts) {
            width += part.width;
            stretch[part.order] += part.stretch;
            shrink += part.shrink;
        }
        long shortfall = widths[node.lines < 20 ? node.lines : 19] - width;
        int[] judged = judge(shortfall, stretch, shrink);
        return new Line(e, first, (int) shortfall, judged[0], judged[1]);
    }

    private static int[] judge(long shortfall, long[] stretch, long shrink) {
        if (shortfall > 0) {
            if (stretch[1] > 0 || stretch[2] > 0 || stretch[3] > 0) {
                return new int[] {0, 2};
            }
            int b = bad(shortfall, stretch[0]);
            return new int[] {b, b > 99 ? 0 : b > 12 ? 1 : 2};
        }
        if (shrink < -shortfall) {
            return new int[] {10001, 3};
        }
        int b = bad(-shortfall, shrink);
        return new int[] {b, b > 12 ? 3 : 2};
    }

    private static int bad(long t, long s) {
        if (t == 0) {
            return 0;
        }
        if (s == 0) {
            return 10000;
        }
        long r;
        if (t <= 7230584) {
            r = 297 * t / s;
        } else if (s >= 1663497) {
            r = t / (s / 297);
        } else {
            r = t;
        }
        return r > 1290 ? 10000 : (int) ((r * r * r + 131072) / 262144);
    }

    private boolean isAlive(Node node, int e) {
        for (int between = node.place + 1; between < e; between++) {
            if (isPlace(between)
                    && (penaltyOf(between) == -10000 || lineFrom(node, between).badness == 10001)) {
                return false;
            }
        }
        return true;
    }

    private long demerits(Node node, Line line) {
        int e = line.end;
        long sum = values[2] + line.badness;
        long d = sum >= 10000 ? 100000000L : sum * sum;
        long p = penaltyOf(e);
        if (p > 0) {
            d += p * p;
        }
        if (p < 0 && p != -10000) {
            d -= p * p;
        }
        boolean fromHyphen = node.place >= 0 && items.get(node.place).kind == Kind.HYPHEN;
        if (fromHyphen && items.get(e).kind == Kind.HYPHEN) {
            d += values[5];
        }
        if (fromHyphen && e == n) {
            d += values[6];
        }
        if (Math.abs(node.fit - line.fit) > 1) {
            d += values[7];
        }
        return d;
    }

    /** False when there would be more than 8000. */
    private boolean makeNodes(boolean isLast) {
        made = new ArrayList<>();
        made.add(new Node(-1, 0, 2, 0, null, null));
        int tolerance = pass == 1 ? values[0] : values[1];
        for (int e = 0; e <= n; e++) {
            if (!isPlace(e)) {
                continue;
            }
            List<Node> ways = new ArrayList<>();
            List<Node> ending = new ArrayList<>();
            boolean allEnd = true;
            for (Node node : made) {
                if (!isAlive(node, e)) {
                    continue;
                }
                Line line = lineFrom(node, e);
                if (line.badness <= tolerance) {
                    ways.add(new Node(e, node.lines + 1, line.fit, node.total + demerits(node, line), node, line));
                }
                if (penaltyOf(e) == -10000 || line.badness == 10001) {
                    ending.add(new Node(e, node.lines + 1, line.fit, node.total, node, line));
                } else {
                    allEnd = false;
                }
            }
            if (isLast && ways.isEmpty() && allEnd && !ending.isEmpty()) {
                ending.sort(Comparator.comparing((Node w) -> -w.lines)
                        .thenComparing(w -> w.former.place).thenComparing(w -> -w.former.fit));
                ways.add(ending.get(0));
            }
            addBest(ways);
            if (made.size() - 1 > 8000) {
                return false;
            }
        }
        return true;
    }

    private void addBest(List<Node> ways) {
        ways.sort(Comparator.comparing((Node w) -> w.total)
                .thenComparing(w -> w.former.place).thenComparing(w -> -w.former.fit));
        int from = made.size();
        for (Node way : ways) {
            boolean isNew = true;
            for (Node node : made.subList(from, made.size())) {
                isNew &= node.lines != way.lines || node.fit != way.fit;
            }
            if (isNew) {
                made.add(way);
            }
        }
    }

    /** Null when the pass fails. */
    private Node choose(boolean isLast) {
        List<Node> atEnd = new ArrayList<>();
        for (Node node : made) {
            if (node.place == n) {
                atEnd.add(node);
            }
        }
        if (atEnd.isEmpty()) {
            return null;
        }
        Comparator<Node> order = Comparator.comparing((Node w) -> w.total)
                .thenComparing(w -> w.lines).thenComparing(w -> w.fit);
        atEnd.sort(order);
        Node best = atEnd.get(0);
        int wished = best.lines + values[9];
        int step = values[9] > 0 ? -1 : 1;
        for (int lines = wished; ; lines += step) {
            for (Node node : atEnd) {
                if (node.lines == lines) {
                    return isLast || lines == wished ? node : null;
                }
            }
        }
    }

    private static boolean isSize(int v) {
        return Math.abs((long) v) <= SIZE;
    }

    private static boolean isGlue(int width, int stretch, int order, int shrink) {
        return isSize(width) && isSize(stretch) && stretch >= 0 && isSize(shrink) && shrink >= 0
                && order >= 0 && order <= 3;
    }
}
