/** Terms, from "SIZES" to "PLACES TO BREAK": each sentence that names a boundary. */
public final class TermsItemsTest {
    private static final int SIZE = Build.SIZE;
    private static final int NOTHING = Build.NOTHING;

    public static void main(String[] args) {
        sizes();
        upTo400Items();
        replacedItems();
        replacedKinds();
        closingItems();
        closingItemsAreNoPlaces();
        placesGlue();
        placesExplicitKern();
        placesPenaltyAndHyphen();
        placesReplaced();
        placesForbidden();
        forced();
        penaltyOfAPlace();
        Check.done();
    }

    /** Terms, SIZES: "ints from -1073741823 to 1073741823": the constant NOTHING is just below them. */
    private static void sizes() {
        Check.same("SIZES, NOTHING", NOTHING, -SIZE - 1);
        LineBreaker x = new LineBreaker();
        Check.same("SIZES, greatest", x.box(1073741823), 0);
        Check.same("SIZES, least", x.box(-1073741823), 1);
        Check.fails("SIZES, one more", IllegalArgumentException.class, () -> x.box(1073741824));
        Check.fails("SIZES, one less", IllegalArgumentException.class, () -> x.box(-1073741824));
        Check.same("SIZES, two items", x.items(), 2);
    }

    /** Terms, PARAGRAPH: "a list of up to 400 ITEMS, from 0 on", of each kind. */
    private static void upTo400Items() {
        String kinds = "bgkep0";
        for (int kind = 0; kind < kinds.length(); kind++) {
            String part = kinds.substring(kind, kind + 1);
            LineBreaker x = new LineBreaker();
            x.set(3, 10000);
            for (int i = 0; i < 399; i++) {
                Build.append(x, part.equals("p") ? "x" : part);
            }
            Check.same("PARAGRAPH, 399 of " + part, x.items(), 399);
            Check.same("PARAGRAPH, 399 of " + part, x.breakUp(), 1);
            Check.same("PARAGRAPH, n", x.line(0, 0), part.equals("g") ? 400 : 401);
            Build.append(x, part);
            Check.same("PARAGRAPH, 400 of " + part, x.breakUp(), 1);
            Check.same("PARAGRAPH, n", x.line(0, 0), part.equals("g") ? 401 : 402);
            Check.fails("PARAGRAPH, 401 of " + part, UnsupportedOperationException.class, () -> {
                Build.append(x, part);
                return 0;
            });
            Check.same("PARAGRAPH, still broken", x.pass(), 1);
        }
    }

    /** Terms, HYPHEN: "0 to 10, are REPLACED: they are only there if the line doesn't break there". */
    private static void replacedItems() {
        for (int replaced : new int[] {0, 1, 2, 9, 10}) {
            LineBreaker x = new LineBreaker();
            x.set(0, -1);
            x.set(3, -10000);
            x.box(100000);
            x.hyphen(1, 2, replaced);
            for (int i = 0; i < replaced; i++) {
                x.box(100);
            }
            x.box(30);
            x.breakUp();
            Check.same("REPLACED, " + replaced + ", up to it", x.line(0, 2), -100001);
            Check.same("REPLACED, " + replaced + ", behind it", x.line(1, 2), -32);
            Check.same("REPLACED, " + replaced + ", first item", x.line(1, 1), 2 + replaced);
            x.set(3, 10000);
            x.breakUp();
            Check.same("REPLACED, " + replaced + ", not broken there", x.line(0, 2), -100030 - 100 * replaced);
        }
    }

    /** Terms: "Replaced items are boxes and kerns." Kerns of both kinds, as the last of ten too. */
    private static void replacedKinds() {
        LineBreaker x = new LineBreaker();
        x.hyphen(0, 0, 10);
        for (int i = 0; i < 10; i++) {
            Check.fails("Replaced, glue", IllegalStateException.class, () -> x.glue(0, 0, 0, 0));
            Check.fails("Replaced, penalty", IllegalStateException.class, () -> x.penalty(-10000));
            Check.fails("Replaced, hyphen", IllegalStateException.class, () -> x.hyphen(0, 0, 0));
            Build.append(x, "bke".substring(i % 3, i % 3 + 1));
        }
        Check.same("Replaced, ten are there", x.items(), 11);
        Check.same("Replaced, the eleventh is not", x.hyphen(0, 0, 1), 11);
    }

    /** Terms: "has, behind its items (without the last one, if that is glue): ..; n is the last one's place". */
    private static void closingItems() {
        sameEnd("", 2, 0);
        sameEnd("g", 2, 0);
        sameEnd("gg", 3, -1);
        sameEnd("ggg", 4, -11);
        sameEnd("b", 3, -1);
        sameEnd("bg", 3, -1);
        sameEnd("bgg", 4, -11);
        sameEnd("gb", 4, -11);
        sameEnd("bgx", 5, -11);
        sameEnd("bge", 5, -111);
        sameEnd("bg0", 5, -11);
        sameEnd("bg0g", 5, -11);
    }

    /** Item i is 10 to the power of i wide. */
    private static void sameEnd(String parts, int n, int shortfall) {
        LineBreaker x = new LineBreaker();
        x.set(0, -1);
        x.set(3, 10000);
        x.set(9, -100);
        int width = 1;
        for (char part : parts.toCharArray()) {
            switch (part) {
                case 'b' -> x.box(width);
                case 'g' -> x.glue(width, 0, 0, 0);
                case 'e' -> x.kern(width, true);
                default -> Build.append(x, String.valueOf(part));
            }
            width *= 10;
        }
        x.around(1, 0, 0, 0, 1000);
        Check.same("n of '" + parts + "'", x.breakUp(), 1);
        Check.same("n of '" + parts + "'", x.line(0, 0), n);
        Check.same("width of '" + parts + "'", x.line(0, 2), shortfall);
        Check.same("items of '" + parts + "'", x.items(), parts.length());
    }

    /** Terms, the closing items: behind a penalty of 10000, which is none, the fill is no place; n is forced. */
    private static void closingItemsAreNoPlaces() {
        for (String parts : new String[] {"", "b", "k", "e", "eg", "beg", "bg", "x"}) {
            LineBreaker x = Build.made(parts);
            x.breakUp();
            Check.same("closing items of '" + parts + "'", x.nodes(), 1);
        }
        LineBreaker x = new LineBreaker();
        x.set(0, -1);
        x.set(1, 0);
        x.wide(0, 1);
        x.around(2, 0, 0, 0, 0);
        Check.same("n ends what is not feasible", x.breakUp(), 1);
        Check.same("n is forced", x.total(0), 0);
    }

    /** As no item has any width, the most lines that there can be end at each place. */
    private static void samePlaces(String what, LineBreaker x, String inFirstPass, String inSecondPass) {
        x.set(0, 0);
        int lines = 0;
        for (int more = 10; more >= 0 && x.pass() != 1; more--) {
            x.set(9, more);
            lines = x.breakUp();
        }
        Check.same("PLACES, " + what + ", first pass", ends(x, lines), inFirstPass);
        x.set(0, -1);
        x.set(9, 100);
        lines = x.breakUp();
        Check.same("PLACES, " + what + ", second pass", ends(x, lines), inSecondPass);
    }

    private static void samePlaces(String what, String parts, String inFirstPass, String inSecondPass) {
        samePlaces(what, Build.made(parts), inFirstPass, inSecondPass);
    }

    /** Of all lines but the last one, which ends at n. */
    private static String ends(LineBreaker x, int lines) {
        StringBuilder ends = new StringBuilder();
        for (int i = 0; i < lines - 1; i++) {
            ends.append(i == 0 ? "" : " ").append(x.line(i, 0));
        }
        return ends.toString();
    }

    /** Terms, PLACES: "a glue, if the item before it .. is a box, a hyphen or a kern that is not explicit". */
    private static void placesGlue() {
        samePlaces("glue that has none before it", "gb", "", "");
        samePlaces("glue behind a box", "bgb", "1", "1");
        samePlaces("glue behind a hyphen", "0gb", "1", "0 1");
        samePlaces("glue behind a kern", "kgb", "1", "1");
        samePlaces("glue behind an explicit kern", "egb", "0", "0");
        samePlaces("glue behind glue", "bggb", "1", "1");
        samePlaces("glue behind a penalty", "bpgb", "1", "1");
        samePlaces("glue behind a penalty that is none", "bxgb", "", "");
        samePlaces("the last glue, which is left out", "bg", "", "");
        samePlaces("the glue before it", "bgg", "1", "1");
    }

    /** Terms, PLACES: "an explicit kern with glue behind it". */
    private static void placesExplicitKern() {
        samePlaces("before glue", "begb", "1", "1");
        samePlaces("the first item", "egb", "0", "0");
        samePlaces("before a box", "beb", "", "");
        samePlaces("before a penalty and glue", "bexgb", "", "");
        samePlaces("only the last of two", "beegb", "2", "2");
        samePlaces("the last item", "be", "", "");
        samePlaces("before glue that is left out", "beg", "", "");
        samePlaces("before two, one of which is left out", "begg", "1", "1");
        samePlaces("a kern that is not explicit", "bkgb", "2", "2");
    }

    /** Terms, PLACES: "a penalty; a hyphen, but not in the first pass". */
    private static void placesPenaltyAndHyphen() {
        samePlaces("penalties at both ends", "pbp", "0 2", "0 2");
        samePlaces("hyphens at both ends", "0b0", "", "0 2");
        samePlaces("one behind the other", "pp00", "0 1", "0 1 2 3");
        samePlaces("boxes and kerns are none", "bkbk", "", "");
    }

    /** Terms, PLACES: "of items that are not replaced", "(not a replaced one: else the hyphen that replaces it)". */
    private static void placesReplaced() {
        samePlaces("glue behind a replaced explicit kern", "b1egb", "3", "1 3");
        samePlaces("glue behind a replaced box", "b1bgb", "3", "1 3");
        samePlaces("glue behind the last replaced one", "b3beegb", "5", "1 5");
        samePlaces("an explicit kern behind the last replaced one", "b1eegb", "3", "1 3");
        samePlaces("an explicit kern one behind it", "b1bbegb", "4", "1 4");
        samePlaces("glue one behind it, behind an explicit kern", "b1kegb", "3", "1 3");
        samePlaces("glue one behind it, behind glue", "b1eggb", "3", "1 3");
    }

    /** Terms, PLACES: "none whose penalty is 10000": 9998 and 9999 are places. */
    private static void placesForbidden() {
        for (int p : new int[] {9998, 9999, 10000}) {
            boolean is = p < 10000;
            LineBreaker x = new LineBreaker();
            x.box(0);
            x.penalty(p);
            x.box(0);
            samePlaces("a penalty of " + p, x, is ? "1" : "", is ? "1" : "");
            LineBreaker y = new LineBreaker();
            y.hyphen(0, 0, 0);
            y.hyphen(NOTHING, 0, 0);
            y.box(0);
            y.set(3, p);
            samePlaces("a hyphen of " + p, y, "", is ? "0 1" : "1");
            y.set(3, 50);
            y.set(4, p);
            samePlaces("an empty one of " + p, y, "", is ? "0 1" : "0");
        }
        LineBreaker x = new LineBreaker();
        x.box(0);
        x.hyphen(0, 0, 0);
        Build.append(x, "gb");
        x.set(3, 10000);
        samePlaces("glue behind a hyphen that is none", x, "2", "2");
    }

    /** Terms, PLACES: "A place whose penalty is -10000 is FORCED": -9999 is not. */
    private static void forced() {
        for (int p : new int[] {-10000, -9999, -9998}) {
            LineBreaker x = new LineBreaker();
            x.box(0);
            x.penalty(p);
            x.box(0);
            x.breakUp();
            Check.same("FORCED, a penalty of " + p, x.nodes(), p == -10000 ? 2 : 3);
            for (int which = 3; which < 5; which++) {
                LineBreaker y = new LineBreaker();
                y.box(0);
                y.hyphen(which == 3 ? 0 : NOTHING, 0, 0);
                y.box(0);
                y.set(which, p);
                y.breakUp();
                Check.same("FORCED, a hyphen is no place in the first pass", y.nodes(), 1);
                y.set(0, -1);
                y.breakUp();
                Check.same("FORCED, a hyphen of " + p, y.nodes(), p == -10000 ? 2 : 3);
            }
        }
    }

    /** Terms, PENALTY of a place: a hyphen's "if what stands before the break is not nothing, else the EMPTY one's". */
    private static void penaltyOfAPlace() {
        int[] marks = {NOTHING, 0, 1, -1};
        for (int before : marks) {
            for (int behind : marks) {
                LineBreaker x = new LineBreaker();
                x.set(0, -1);
                x.set(1, 10000);
                x.set(3, -20);
                x.set(4, -30);
                x.around(1, 0, 0, 0, 1);
                x.around(0, 0, 1, 1, 0);
                x.hyphen(before, behind, 0);
                x.box(0);
                x.set(9, 1);
                x.breakUp();
                Check.same("PENALTY, before " + before, x.line(0, 0), 0);
                long badness = before == 1 ? 100 : 0;
                Check.same("PENALTY, before " + before + ", behind " + behind, x.total(0),
                        (10 + badness) * (10 + badness) - (before == NOTHING ? 900 : 400));
            }
        }
        for (String parts : new String[] {"bgb", "begb"}) {
            LineBreaker x = Build.made(parts);
            x.set(3, 77);
            x.set(4, 77);
            x.set(9, 1);
            x.breakUp();
            Check.same("PENALTY, otherwise 0: " + parts, x.total(0), 100);
        }
    }
}
