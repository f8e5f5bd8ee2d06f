/** All that calls can tell of an object, as a text, so that two objects can be compared. */
final class Trace {
    private Trace() {
    }

    /** Of what is broken: nothing is changed by it. */
    static String ofLines(LineBreaker x) {
        StringBuilder text = new StringBuilder();
        text.append("items ").append(x.items()).append(" pass ").append(x.pass());
        text.append(" nodes ").append(x.nodes());
        for (int i = 0; i < 30; i++) {
            int line = i;
            String total = Check.outcome(() -> x.total(line));
            text.append(" | ").append(total);
            if (total.startsWith("throws")) {
                break;
            }
            for (int what = 0; what < 5; what++) {
                text.append(' ').append(x.line(i, what));
            }
        }
        return text.toString();
    }

    /** Of the items too: it is broken once more, so that this costs what was broken before. */
    static String ofItems(LineBreaker x) {
        return ofLines(x) + "\nagain " + broken(x);
    }

    /** Of the settings too: this costs the paragraph, the settings and some 200 calls. */
    static String ofAll(LineBreaker x) {
        String text = ofItems(x) + "\nnext " + Check.outcome(() -> x.penalty(0));
        text += "\nwidths " + widths(x) + "\naround " + around(x);
        for (int which = 0; which < 3; which++) {
            x.around(which, 0, which / 2, 1, 0);
        }
        text += "\nlooseness " + looseness(x);
        x.set(9, 0);
        x.wide(0, 1000);
        for (int stretch : new int[] {2000, 1020, 460}) {
            text += "\nloose " + loose(x, stretch);
        }
        return text + "\nhyphens " + hyphens(x);
    }

    private static String broken(LineBreaker x) {
        return Check.outcome(x::breakUp) + ": " + ofLines(x);
    }

    private static String widths(LineBreaker x) {
        x.keep(0);
        for (int i = 0; i < 21; i++) {
            x.box(0);
            x.penalty(-10000);
        }
        StringBuilder text = new StringBuilder(Check.outcome(x::breakUp));
        for (int i = 0; i < 21; i++) {
            int line = i;
            text.append(' ').append(Check.outcome(() -> x.line(line, 2)));
        }
        return text.toString();
    }

    /** A line that stretches, one that shrinks, and one with the fill. */
    private static String around(LineBreaker x) {
        x.keep(0);
        x.wide(0, 100);
        x.box(60);
        x.penalty(-10000);
        x.box(130);
        x.penalty(-10000);
        x.box(50);
        return broken(x);
    }

    private static String loose(LineBreaker x, int stretch) {
        x.keep(0);
        Build.forcedLine(x, 0, stretch, 0);
        x.box(0);
        return broken(x);
    }

    /** Three lines just as wide as they should be, the first two of which end at hyphens. */
    private static String hyphens(LineBreaker x) {
        x.keep(0);
        x.box(1000);
        x.hyphen(0, 0, 0);
        x.box(1000);
        x.hyphen(Build.NOTHING, 0, 0);
        x.box(1000);
        return broken(x);
    }

    private static String looseness(LineBreaker x) {
        x.keep(0);
        x.wide(0, 0);
        Build.append(x, "bpbpb");
        return broken(x);
    }
}
