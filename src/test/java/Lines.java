/** Compares all that a line answers at once. */
final class Lines {
    private Lines() {
    }

    /** due: end, first item, shortfall, badness, fit, total. */
    static void same(String what, LineBreaker x, int i, long... due) {
        for (int fact = 0; fact < 5; fact++) {
            int which = fact;
            Check.same(what + ", line(" + i + ", " + fact + ")",
                    Check.outcome(() -> x.line(i, which)), String.valueOf(due[fact]));
        }
        Check.same(what + ", total(" + i + ")", Check.outcome(() -> x.total(i)), String.valueOf(due[5]));
    }
}
