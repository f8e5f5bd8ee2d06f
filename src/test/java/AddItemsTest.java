/** Promises 2 to 8: box, glue, kern, penalty, hyphen, keep, items. */
public final class AddItemsTest {
    private static final int SIZE = 1073741823;
    private static final int NOTHING = LineBreaker.NOTHING;
    private static final Class<IllegalArgumentException> ARGUMENT = IllegalArgumentException.class;
    private static final Class<IllegalStateException> STATE = IllegalStateException.class;
    private static final Class<UnsupportedOperationException> UNSUPPORTED = UnsupportedOperationException.class;

    public static void main(String[] args) {
        eachCallAnswersItsItem();
        sizesOfBoxesAndKerns();
        boundsOfGlue();
        penaltiesAreClamped();
        boundsOfHyphens();
        replacedItemsAreBoxesAndKerns();
        fourHundredItemsAreAll();
        exceptionsThatAreNamedFirst();
        keepCuts();
        keepMayCutReplacedItems();
        addingAndKeepingUnbreak();
        callsThatThrowChangeNothing();
        partsOfItemsThatWereNotKept();
        Check.done();
    }

    private static void eachCallAnswersItsItem() {
        LineBreaker x = new LineBreaker();
        Check.same("box", x.box(1), 0);
        Check.same("glue", x.glue(1, 1, 0, 1), 1);
        Check.same("kern", x.kern(1, true), 2);
        Check.same("kern", x.kern(1, false), 3);
        Check.same("penalty", x.penalty(1), 4);
        Check.same("hyphen", x.hyphen(1, 1, 0), 5);
        Check.same("items", x.items(), 6);
        x.breakUp();
        Check.same("closing items are not counted", x.items(), 6);
    }

    private static void sizesOfBoxesAndKerns() {
        for (int wrong : new int[] {SIZE + 1, -SIZE - 1, Integer.MAX_VALUE, Integer.MIN_VALUE}) {
            LineBreaker x = new LineBreaker();
            Check.fails("box", ARGUMENT, () -> x.box(wrong));
            Check.fails("kern", ARGUMENT, () -> x.kern(wrong, true));
            Check.fails("kern", ARGUMENT, () -> x.kern(wrong, false));
            Check.same("items", x.items(), 0);
        }
        for (int right : new int[] {SIZE, -SIZE, 0}) {
            LineBreaker x = new LineBreaker();
            Check.same("box", x.box(right), 0);
            Check.same("kern", x.kern(right, true), 1);
        }
    }

    private static void boundsOfGlue() {
        LineBreaker x = new LineBreaker();
        int[][] wrong = {
            {SIZE + 1, 0, 0, 0}, {NOTHING, 0, 0, 0}, {0, SIZE + 1, 0, 0}, {0, -1, 0, 0}, {0, NOTHING, 0, 0},
            {0, 0, -1, 0}, {0, 0, 4, 0}, {0, 0, 0, SIZE + 1}, {0, 0, 0, -1}, {0, 0, 0, Integer.MIN_VALUE}
        };
        for (int[] g : wrong) {
            Check.fails("glue", ARGUMENT, () -> x.glue(g[0], g[1], g[2], g[3]));
        }
        Check.same("items", x.items(), 0);
        Check.same("greatest", x.glue(SIZE, SIZE, 3, SIZE), 0);
        Check.same("least", x.glue(-SIZE, 0, 0, 0), 1);
    }

    /** A penalty of 10000 is no place, one of -10000 is a forced one. */
    private static void penaltiesAreClamped() {
        for (int p : new int[] {10000, 10001, Integer.MAX_VALUE}) {
            LineBreaker x = new LineBreaker();
            Check.same("penalty", x.penalty(p), 0);
            x.breakUp();
            Check.same("no place", x.nodes(), 1);
        }
        for (int p : new int[] {-10000, -10001, Integer.MIN_VALUE}) {
            LineBreaker x = new LineBreaker();
            x.penalty(p);
            x.box(0);
            Check.same("forced", x.breakUp(), 2);
            Check.same("its square is not counted", x.total(0), 100);
        }
        LineBreaker x = new LineBreaker();
        x.penalty(-9999);
        x.box(0);
        x.breakUp();
        Check.same("-9999 is not forced", x.total(0), 100 - 9999L * 9999L);
        Check.same("all ways", x.nodes(), 3);
    }

    private static void boundsOfHyphens() {
        LineBreaker x = new LineBreaker();
        int[][] wrong = {
            {SIZE + 1, 0, 0}, {NOTHING - 1, 0, 0}, {0, SIZE + 1, 0}, {0, Integer.MIN_VALUE, 0}, {0, 0, -1}, {0, 0, 11}
        };
        for (int[] h : wrong) {
            Check.fails("hyphen", ARGUMENT, () -> x.hyphen(h[0], h[1], h[2]));
        }
        Check.same("items", x.items(), 0);
        Check.same("sizes", x.hyphen(-SIZE, SIZE, 0), 0);
        Check.same("nothing", x.hyphen(NOTHING, NOTHING, 10), 1);
    }

    private static void replacedItemsAreBoxesAndKerns() {
        LineBreaker x = new LineBreaker();
        x.hyphen(0, 0, 10);
        for (int i = 0; i < 10; i++) {
            Check.fails("glue", STATE, () -> x.glue(0, 0, 0, 0));
            Check.fails("penalty", STATE, () -> x.penalty(0));
            Check.fails("hyphen", STATE, () -> x.hyphen(0, 0, 0));
            Check.fails("breakUp", STATE, x::breakUp);
            if (i % 2 == 0) {
                Check.same("box", x.box(1), i + 1);
            } else {
                Check.same("kern", x.kern(1, i == 1), i + 1);
            }
        }
        Check.same("then glue", x.glue(0, 0, 0, 0), 11);
        Check.same("then a penalty", x.penalty(0), 12);
        Check.same("then a hyphen", x.hyphen(0, 0, 0), 13);
    }

    private static LineBreaker withBoxes(int count) {
        LineBreaker x = new LineBreaker();
        for (int i = 0; i < count; i++) {
            x.box(0);
        }
        return x;
    }

    private static void fourHundredItemsAreAll() {
        LineBreaker x = withBoxes(399);
        Check.same("the last", x.box(0), 399);
        Check.fails("box", UNSUPPORTED, () -> x.box(0));
        Check.fails("glue", UNSUPPORTED, () -> x.glue(0, 0, 0, 0));
        Check.fails("kern", UNSUPPORTED, () -> x.kern(0, false));
        Check.fails("penalty", UNSUPPORTED, () -> x.penalty(0));
        Check.fails("hyphen", UNSUPPORTED, () -> x.hyphen(0, 0, 0));
        Check.same("items", x.items(), 400);
        Check.same("breaks", x.breakUp(), 1);
        Check.same("end", x.line(0, 0), 402);
    }

    private static void exceptionsThatAreNamedFirst() {
        LineBreaker x = withBoxes(399);
        x.hyphen(0, 0, 2);
        Check.fails("box", ARGUMENT, () -> x.box(NOTHING));
        Check.fails("kern", ARGUMENT, () -> x.kern(NOTHING, true));
        Check.fails("glue", ARGUMENT, () -> x.glue(0, 0, 4, 0));
        Check.fails("hyphen", ARGUMENT, () -> x.hyphen(0, 0, 11));
        Check.fails("glue", STATE, () -> x.glue(0, 0, 0, 0));
        Check.fails("penalty", STATE, () -> x.penalty(0));
        Check.fails("hyphen", STATE, () -> x.hyphen(0, 0, 0));
        Check.fails("box", UNSUPPORTED, () -> x.box(0));
        Check.fails("kern", UNSUPPORTED, () -> x.kern(0, true));
    }

    private static void keepCuts() {
        LineBreaker x = withBoxes(3);
        Check.same("negative", x.keep(-1), false);
        Check.same("least", x.keep(Integer.MIN_VALUE), false);
        Check.same("more than there are", x.keep(4), false);
        Check.same("greatest", x.keep(Integer.MAX_VALUE), false);
        Check.same("items", x.items(), 3);
        Check.same("all", x.keep(3), true);
        Check.same("items", x.items(), 3);
        Check.same("some", x.keep(1), true);
        Check.same("items", x.items(), 1);
        Check.same("next item", x.box(0), 1);
        Check.same("none", x.keep(0), true);
        Check.same("none of none", x.keep(0), true);
        Check.same("items", x.items(), 0);
    }

    private static void keepMayCutReplacedItems() {
        LineBreaker x = new LineBreaker();
        x.box(0);
        x.hyphen(0, 0, 2);
        x.box(0);
        x.box(0);
        x.breakUp();
        x.keep(3);
        Check.fails("one is missing", STATE, x::breakUp);
        Check.fails("glue", STATE, () -> x.glue(0, 0, 0, 0));
        x.keep(1);
        Check.same("the hyphen is gone", x.glue(0, 0, 0, 0), 1);
        Check.same("breaks", x.breakUp(), 1);
    }

    private static LineBreaker broken() {
        LineBreaker x = new LineBreaker();
        x.box(0);
        x.breakUp();
        return x;
    }

    private static void addingAndKeepingUnbreak() {
        for (int call = 0; call < 8; call++) {
            LineBreaker x = broken();
            Check.same("broken", x.pass(), 1);
            switch (call) {
                case 0 -> x.box(0);
                case 1 -> x.glue(0, 0, 0, 0);
                case 2 -> x.kern(0, true);
                case 3 -> x.kern(0, false);
                case 4 -> x.penalty(0);
                case 5 -> x.hyphen(0, 0, 0);
                case 6 -> x.keep(1);
                default -> x.keep(0);
            }
            Check.same("pass after call " + call, x.pass(), 0);
            Check.same("nodes after call " + call, x.nodes(), 0);
            Check.fails("line after call " + call, IndexOutOfBoundsException.class, () -> x.line(0, 0));
            Check.fails("total after call " + call, IndexOutOfBoundsException.class, () -> x.total(0));
        }
    }

    private static void callsThatThrowChangeNothing() {
        LineBreaker x = broken();
        Check.outcome(() -> x.box(NOTHING));
        Check.outcome(() -> x.glue(0, -1, 0, 0));
        Check.outcome(() -> x.kern(NOTHING, true));
        Check.outcome(() -> x.hyphen(0, 0, 11));
        x.keep(2);
        x.keep(-1);
        Check.same("items", x.items(), 1);
        Check.same("pass", x.pass(), 1);
        Lines.same("still", x, 0, 3, 0, 0, 0, 2, 100);
    }

    /** An item in the place of one that was not kept has nothing of it. */
    private static void partsOfItemsThatWereNotKept() {
        LineBreaker x = new LineBreaker();
        x.wide(0, 100);
        x.around(2, 0, 0, 0, 0);
        x.set(0, -1);
        x.glue(50, 60, 1, 70);
        x.box(5);
        x.breakUp();
        Check.same("endless stretch", x.line(0, 3), 0);
        x.keep(0);
        x.box(10);
        x.breakUp();
        Check.same("shortfall", x.line(0, 2), 90);
        Check.same("badness", x.line(0, 3), 10000);
        x.keep(0);
        x.penalty(77);
        x.box(8);
        x.keep(0);
        x.hyphen(9, 9, 5);
        x.keep(0);
        x.box(10);
        x.box(10);
        Check.same("one line", x.breakUp(), 1);
        Check.same("shortfall", x.line(0, 2), 80);
        Check.same("nodes", x.nodes(), 1);
    }
}
