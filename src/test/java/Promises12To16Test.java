/** Promises 12 to 16, each sentence that names a boundary: at it, just inside and just outside. */
public final class Promises12To16Test {
    private static final int SIZE = Build.SIZE;
    private static final int NOTHING = Build.NOTHING;

    public static void main(String[] args) {
        p12HowManyLines();
        p12NeverNone();
        p12Full();
        p12FullOfNodesThatAreAlive();
        p12FullInALaterPass();
        p12FullIsNotBroken();
        p12ReplacedItems();
        p12Widths();
        p12AllItems();
        p12Stretch();
        p12Shrink();
        p12EachSumAlone();
        p12FirstNamedException();
        p12Again();
        p13Passes();
        p14Nodes();
        p15Lines();
        p15Whats();
        p16Lines();
        calls512();
        Check.done();
    }

    /** Promise 12: "how many lines it has": from 1, of an empty paragraph, to 401, of 400 forced places. */
    private static void p12HowManyLines() {
        Check.same("P12 no item", new LineBreaker().breakUp(), 1);
        Check.same("P12 a forced place", Build.made("f").breakUp(), 2);
        LineBreaker x = forced(399);
        Check.same("P12 399 forced places", x.breakUp(), 400);
        x.penalty(-10000);
        Check.same("P12 400 forced places", x.breakUp(), 401);
        Check.same("P12 the last line's end", x.line(400, 0), 402);
        Check.same("P12 the last total", x.total(400), 40100);
        Check.fails("P12 no line behind it", IndexOutOfBoundsException.class, () -> x.line(401, 0));
        Check.fails("P12 no total behind it", IndexOutOfBoundsException.class, () -> x.total(401));
    }

    private static LineBreaker forced(int count) {
        LineBreaker x = new LineBreaker();
        for (int i = 0; i < count; i++) {
            x.penalty(-10000);
        }
        return x;
    }

    /**
     * Promise 12: "0 when the last pass fails". By Terms, LAST PASS, it never does: where all nodes
     * end without a feasible line there is yet one, and n is forced. The worst lines show it.
     */
    private static void p12NeverNone() {
        for (int wide : new int[] {-SIZE, 0, SIZE}) {
            for (int more = 0; more < 2; more++) {
                LineBreaker x = new LineBreaker();
                x.set(0, -1);
                x.set(1, 0);
                x.set(8, more);
                x.wide(0, wide);
                x.around(2, 0, 0, 0, 0);
                x.box(SIZE / 2);
                x.penalty(-10000);
                x.box(-SIZE / 2);
                Check.same("P12 there are lines", x.breakUp(), 2);
                Check.same("P12 in the last pass", x.pass(), 2 + more);
            }
        }
    }

    /** 125 forced places; then each further place, n among them, has one node more: 125 + 126 * 125 / 2. */
    private static LineBreaker eightThousand() {
        LineBreaker x = forced(125);
        for (int i = 0; i < 124; i++) {
            x.penalty(0);
        }
        return x;
    }

    /** Promise 12: "FULL when a pass would make more than 8000 nodes": 7875, 8000, 8001 of them. */
    private static void p12Full() {
        LineBreaker x = eightThousand();
        Check.same("P12 8000 nodes", x.breakUp(), 126);
        Check.same("P12 8000 nodes", x.nodes(), 8000);
        x.keep(248);
        Check.same("P12 a place fewer", x.breakUp(), 126);
        Check.same("P12 a place fewer", x.nodes(), 7875);
        LineBreaker y = forced(1);
        y.penalty(-10000);
        for (int i = 0; i < 124; i++) {
            y.penalty(0);
        }
        Check.same("P12 2 and 7875 nodes", y.breakUp(), 3);
        Check.same("P12 2 and 7875 nodes", y.nodes(), 7877);
        LineBreaker z = forced(126);
        for (int i = 0; i < 124; i++) {
            z.penalty(0);
        }
        Check.same("P12 8001 nodes", z.breakUp(), LineBreaker.FULL);
        z.keep(249);
        Check.same("P12 again 126 and 7750 nodes", z.breakUp(), 127);
        Check.same("P12 again 126 and 7750 nodes", z.nodes(), 7876);
    }

    /**
     * 126 places, none of which ends a node, with 1 node, 2, 3 and so on. The kern is only there in
     * lines from the beginning, so that places behind it have no node with one line; then comes
     * what leaves no line from a place feasible, but that from the beginning is, at n.
     */
    private static LineBreaker allAlive(int placesBehindKern) {
        LineBreaker x = new LineBreaker();
        for (int i = 0; i < 126 - placesBehindKern; i++) {
            x.penalty(0);
        }
        x.kern(-5, true);
        for (int i = 0; i < placesBehindKern; i++) {
            x.penalty(0);
        }
        x.box(1);
        return x;
    }

    /** Promise 12: "FULL when a pass would make more than 8000 nodes", all of which are alive up to n. */
    private static void p12FullOfNodesThatAreAlive() {
        for (int places = 1; places < 4; places++) {
            LineBreaker x = allAlive(places);
            int due = 126 * 127 / 2 - places + 1;
            Check.same("P12 alive, " + due, x.breakUp(), due > 8000 ? LineBreaker.FULL : 1);
            Check.same("P12 alive, " + due, x.nodes(), due > 8000 ? 0 : due);
        }
    }

    /** Promise 12: "a pass": also the second, after the first that had few nodes, and the third. */
    private static void p12FullInALaterPass() {
        for (int more = 0; more < 2; more++) {
            LineBreaker x = new LineBreaker();
            x.set(8, more);
            x.set(9, 100);
            x.box(0);
            for (int i = 0; i < 125; i++) {
                x.hyphen(0, 0, 0);
            }
            Check.same("P12 8001 nodes in the second pass", x.breakUp(), LineBreaker.FULL);
            x.set(9, 0);
            Check.same("P12 one node in the first", x.breakUp(), 1);
            Check.same("P12 one node in the first", x.nodes(), 1);
        }
        LineBreaker y = new LineBreaker();
        y.set(0, -1);
        y.set(1, 0);
        y.set(8, SIZE / 2);
        y.wide(0, 1);
        y.box(0);
        for (int i = 0; i < 125; i++) {
            y.penalty(0);
        }
        y.penalty(-10000);
        y.box(0);
        Check.same("P12 8001 nodes in the third pass", y.breakUp(), LineBreaker.FULL);
        y.set(8, 0);
        Check.same("P12 and without it", y.breakUp(), 2);
    }

    /** Promise 12: "With 0 or FULL it is not broken, whatever it was before." */
    private static void p12FullIsNotBroken() {
        LineBreaker x = new LineBreaker();
        x.box(0);
        for (int i = 0; i < 125; i++) {
            x.hyphen(0, 0, 0);
        }
        Check.same("P12 broken", x.breakUp(), 1);
        x.set(0, -1);
        Check.same("P12 full", x.breakUp(), LineBreaker.FULL);
        Check.same("P12 not broken", Trace.ofLines(x),
                "items 126 pass 0 nodes 0 | throws.IndexOutOfBoundsException");
        x.set(0, 100);
        Check.same("P12 broken anew", x.breakUp(), 1);
        Check.same("P12 broken anew", x.pass(), 1);
    }

    /** Promise 12: "IllegalStateException when a hyphen's replaced items are not all there". */
    private static void p12ReplacedItems() {
        Refused.byState("P12 one of three is there", Build::waiting, LineBreaker::breakUp);
        Refused.byState("P12 none of two has room", Build::fullAndWaiting, LineBreaker::breakUp);
        for (int replaced : new int[] {1, 2, 10}) {
            LineBreaker x = new LineBreaker();
            x.hyphen(1, 2, replaced);
            for (int there = 0; there < replaced; there++) {
                Check.fails("P12 " + there + " of " + replaced, IllegalStateException.class, x::breakUp);
                x.kern(0, true);
            }
            Check.same("P12 all " + replaced, x.breakUp(), 1);
            x.box(0);
            Check.same("P12 more than " + replaced, x.breakUp(), 1);
            x.keep(replaced);
            Check.fails("P12 one was not kept", IllegalStateException.class, x::breakUp);
        }
        LineBreaker x = new LineBreaker();
        x.hyphen(0, 0, 0);
        Check.same("P12 none is replaced", x.breakUp(), 1);
    }

    /** Puts so much into one of the sums. */
    private interface Part {
        void put(LineBreaker x, int amount);
    }

    private static void sameSums(String what, Part part, Part rest) {
        for (int amount : new int[] {0, 1, SIZE / 2, SIZE - 1, SIZE}) {
            for (int over = -1; over < 2; over++) {
                int left = SIZE - amount + over;
                if (left < 0 || left > SIZE) {
                    continue;
                }
                Refused.Maker maker = () -> summed(part, amount, rest, left);
                if (over == 1) {
                    Refused.asUnsupported("P12 " + what + " " + amount, maker, LineBreaker::breakUp);
                } else {
                    Check.same("P12 " + what + " " + amount, maker.make().breakUp() > 0, true);
                }
            }
        }
    }

    /** It is broken before the rest comes: what is set around leaves it so, and so must the refused call. */
    private static LineBreaker summed(Part part, int amount, Part rest, int left) {
        LineBreaker x = new LineBreaker();
        x.around(2, 0, 0, 1, 0);
        x.penalty(10000);
        part.put(x, amount);
        x.penalty(10000);
        x.breakUp();
        rest.put(x, left);
        return x;
    }

    /** Promise 12: "all widths of items, what stands at hyphens, and those around, without their signs". */
    private static void p12Widths() {
        Part around = (x, w) -> x.around(0, w, 0, 0, 0);
        Part[] parts = {
            (x, w) -> x.box(w), (x, w) -> x.box(-w), (x, w) -> x.kern(w, true), (x, w) -> x.kern(-w, false),
            (x, w) -> x.glue(w, 0, 0, 0), (x, w) -> x.glue(-w, 0, 0, 0),
            (x, w) -> x.hyphen(w, NOTHING, 0), (x, w) -> x.hyphen(-w, 0, 0),
            (x, w) -> x.hyphen(NOTHING, w, 0), (x, w) -> x.hyphen(0, -w, 0),
            (x, w) -> {
                x.hyphen(NOTHING, NOTHING, 1);
                x.box(w);
            },
            (x, w) -> {
                x.hyphen(0, 0, 1);
                x.kern(-w, true);
            },
            (x, w) -> x.around(1, w, 0, 0, 0), (x, w) -> x.around(1, -w, 0, 0, 0),
            (x, w) -> x.around(2, w, 0, 0, 0), (x, w) -> x.around(2, -w, 0, 0, 0)
        };
        for (int i = 0; i < parts.length; i++) {
            sameSums("width, part " + i, parts[i], around);
            sameSums("width, part " + i + " and a negative one", parts[i], (x, w) -> x.around(0, -w, 0, 0, 0));
        }
        sameSums("width of the last glue", around, (x, w) -> x.glue(w, 0, 0, 0));
        LineBreaker x = new LineBreaker();
        x.box(SIZE);
        x.hyphen(NOTHING, NOTHING, 0);
        x.penalty(10000);
        x.penalty(-10000);
        Check.same("P12 nothing and penalties have no width", x.breakUp() > 0, true);
        x.wide(0, SIZE);
        Check.same("P12 nor do the lines' widths count", x.breakUp() > 0, true);
    }

    /** Promise 12: "all": the first item, the last one, and those between. */
    private static void p12AllItems() {
        for (int item = 0; item < 5; item++) {
            for (int over = 0; over < 2; over++) {
                for (int sum = 0; sum < 3; sum++) {
                    LineBreaker x = new LineBreaker();
                    x.around(2, 0, 0, 0, 0);
                    for (int i = 0; i < 5; i++) {
                        int amount = i == item ? SIZE - 1 + over : 0;
                        x.glue(sum == 0 ? amount : 0, sum == 1 ? amount : 0, 0, sum == 2 ? amount : 0);
                    }
                    x.around(0, sum == 0 ? 1 : 0, sum == 1 ? 1 : 0, 0, sum == 2 ? 1 : 0);
                    Check.same("P12 sum " + sum + ", item " + item, Check.outcome(x::breakUp),
                            over == 0 ? "1" : "throws.UnsupportedOperationException");
                }
            }
        }
    }

    /** Promise 12: "(or all stretch, with more stretch, ..." of all orders. */
    private static void p12Stretch() {
        Part more = (x, s) -> x.set(8, s);
        for (int order = 0; order < 4; order++) {
            int o = order;
            sameSums("stretch, glue", (x, s) -> x.glue(0, s, o, 0), more);
            sameSums("stretch, left", (x, s) -> x.around(0, 0, s, o, 0), more);
            sameSums("stretch, right", (x, s) -> x.around(1, 0, s, o, 0), more);
            sameSums("stretch, the fill", (x, s) -> x.around(2, 0, s, o, 0), more);
            sameSums("stretch, the last glue", (x, s) -> x.around(0, 0, s, 0, 0), (x, s) -> x.glue(0, s, o, 0));
        }
    }

    /** Promise 12: "or all shrink, so) are no size". */
    private static void p12Shrink() {
        Part glue = (x, s) -> x.glue(0, 0, 0, s);
        sameSums("shrink, left", (x, s) -> x.around(0, 0, 0, 0, s), glue);
        sameSums("shrink, right", (x, s) -> x.around(1, 0, 0, 0, s), glue);
        sameSums("shrink, the fill", (x, s) -> x.around(2, 0, 0, 0, s), glue);
        sameSums("shrink, glue", glue, (x, s) -> x.around(0, 0, 0, 0, s));
    }

    /** Promise 12: widths, stretch and shrink are three sums, not one; and none wraps around. */
    private static void p12EachSumAlone() {
        LineBreaker x = new LineBreaker();
        x.around(2, SIZE, SIZE, 0, SIZE);
        Check.same("P12 a size each", x.breakUp(), 1);
        for (int count : new int[] {2, 4, 5, 8, 9, 398}) {
            LineBreaker y = new LineBreaker();
            LineBreaker z = new LineBreaker();
            for (int i = 0; i < count; i++) {
                y.box(i % 2 == 0 ? SIZE : -SIZE);
                z.glue(0, SIZE, 3, SIZE);
            }
            Check.fails("P12 " + count + " boxes", UnsupportedOperationException.class, y::breakUp);
            Check.fails("P12 " + count + " glues", UnsupportedOperationException.class, z::breakUp);
        }
    }

    /** Promise 12 and Terms: "it is the one that it names first". */
    private static void p12FirstNamedException() {
        Refused.byState("P12 both", () -> {
            LineBreaker x = new LineBreaker();
            x.box(SIZE);
            x.hyphen(1, 1, 1);
            return x;
        }, LineBreaker::breakUp);
        Refused.asUnsupported("P12 it was broken before", () -> {
            LineBreaker x = Build.broken();
            x.set(8, SIZE);
            return x;
        }, LineBreaker::breakUp);
    }

    /** Promise 12: "It is broken then, if that is above 0": twice the same, with what was set since. */
    private static void p12Again() {
        LineBreaker x = Build.broken();
        String due = Trace.ofLines(x);
        x.breakUp();
        Check.same("P12 twice the same", Trace.ofLines(x), due);
        x.set(9, 0);
        x.breakUp();
        Check.same("P12 two lines now", x.breakUp(), 2);
        Check.fails("P12 nothing is left of the third", IndexOutOfBoundsException.class, () -> x.line(2, 0));
    }

    /** Promise 13: "Which pass it was: 1, 2 or 3; 0 when it is not broken". */
    private static void p13Passes() {
        int[][] due = {{100, 1}, {101, 2}, {200, 2}, {201, 3}, {8189, 3}};
        int[] missing = {297, 298, 374, 375, 1290};
        for (int i = 0; i < due.length; i++) {
            LineBreaker x = Build.loose(missing[i], 297);
            x.set(8, 1);
            Check.same("P13 not yet", x.pass(), 0);
            x.breakUp();
            Check.same("P13 badness " + due[i][0], x.pass(), due[i][1]);
            x.keep(x.items());
            Check.same("P13 no longer", x.pass(), 0);
        }
        LineBreaker x = Build.loose(297, 297);
        x.set(0, -1);
        x.breakUp();
        Check.same("P13 without a first pass it is still called 2", x.pass(), 2);
    }

    /** Promise 14: "How many nodes that pass made (the beginning is none of them); 0 when it is not broken". */
    private static void p14Nodes() {
        LineBreaker x = new LineBreaker();
        Check.same("P14 not yet", x.nodes(), 0);
        x.breakUp();
        Check.same("P14 only the one at n", x.nodes(), 1);
        Build.append(x, "bp");
        Check.same("P14 not any more", x.nodes(), 0);
        x.breakUp();
        Check.same("P14 one at the place, two at n", x.nodes(), 3);
        LineBreaker y = Build.made("bpb0b");
        y.breakUp();
        Check.same("P14 only of the pass that did it: the first", y.nodes(), 3);
        y.set(9, 2);
        y.breakUp();
        Check.same("P14 only of the pass that did it: the second", y.nodes(), 6);
        Check.same("P14 it was the second", y.pass(), 2);
    }

    /** Promise 15: "IndexOutOfBoundsException when it is not broken, has no such line". */
    private static void p15Lines() {
        for (int i : new int[] {-1, 3, 4, Integer.MIN_VALUE, Integer.MAX_VALUE}) {
            Refused.byIndex("P15 line(" + i + ", 0) of three", Build::broken, x -> x.line(i, 0));
        }
        for (int i : new int[] {0, 1, 2}) {
            Check.same("P15 line " + i + " of three", Build.broken().line(i, 1) >= 0, true);
        }
        for (int i : new int[] {-1, 0, 1}) {
            Refused.byIndex("P15 line(" + i + ", 0), not broken", Build::unbroken, x -> x.line(i, 0));
            Refused.byIndex("P15 line(" + i + ", 5), not broken", Build::unbroken, x -> x.line(i, 5));
        }
        Refused.byIndex("P15 a new object", LineBreaker::new, x -> x.line(0, 0));
    }

    /** Promise 15: "0 the item at which it ends, 1 its first item, 2 .., 3 .., 4 its fit" ... "or for another what". */
    private static void p15Whats() {
        for (int what : new int[] {-1, 5, 6, Integer.MIN_VALUE, Integer.MAX_VALUE}) {
            Refused.byIndex("P15 line(0, " + what + ")", Build::broken, x -> x.line(0, what));
            Refused.byIndex("P15 line(2, " + what + ")", Build::broken, x -> x.line(2, what));
            Refused.byIndex("P15 line(3, " + what + ")", Build::broken, x -> x.line(3, what));
        }
        LineBreaker x = Build.broken();
        Lines.same("P15", x, 0, 1, 0, 35, 20, 1, 1024);
        Lines.same("P15", x, 1, 7, 2, 53, 69, 1, 7585);
        Lines.same("P15", x, 2, 12, 9, 54, 12, 2, 8161);
    }

    /** Promise 16: "IndexOutOfBoundsException when it is not broken, or has no such line". */
    private static void p16Lines() {
        for (int i : new int[] {-1, 3, 4, Integer.MIN_VALUE, Integer.MAX_VALUE}) {
            Refused.byIndex("P16 total(" + i + ") of three", Build::broken, x -> x.total(i));
        }
        for (int i : new int[] {-1, 0, 1}) {
            Refused.byIndex("P16 total(" + i + "), not broken", Build::unbroken, x -> x.total(i));
        }
        Refused.byIndex("P16 a new object", LineBreaker::new, x -> x.total(0));
        LineBreaker x = new LineBreaker();
        x.set(0, 10000);
        x.set(2, 10000);
        for (int i = 0; i < 30; i++) {
            x.penalty(9999);
        }
        x.set(9, 30);
        Check.same("P16 all places", x.breakUp(), 31);
        Check.same("P16 a total that is no int", x.total(29), 30 * (100000000L + 9999L * 9999L));
        LineBreaker y = new LineBreaker();
        for (int i = 0; i < 30; i++) {
            y.penalty(-9999);
        }
        y.breakUp();
        Check.same("P16 a total far below 0", y.total(29), 30 * (100 - 9999L * 9999L));
    }

    /** What it is: "An object is used for at most 512 calls": the last of them is answered too. */
    private static void calls512() {
        LineBreaker x = new LineBreaker();
        for (int i = 0; i < 400; i++) {
            Build.append(x, i % 40 == 38 ? "f" : "b");
        }
        for (int i = 400; i < 499; i++) {
            Check.same("call " + i, x.items(), 400);
        }
        Check.same("call 500", x.breakUp(), 11);
        Lines.same("calls 501 to 506", x, 10, 402, 399, 0, 0, 2, 1100);
        Lines.same("calls 507 to 512", x, 9, 398, 359, 0, 0, 2, 1000);
    }
}
