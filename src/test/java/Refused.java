/** "A call that throws changes nothing": one of two like objects refuses a call; then both are compared. */
final class Refused {
    private Refused() {
    }

    interface Maker {
        LineBreaker make();
    }

    interface Act {
        void on(LineBreaker x);
    }

    static void byArgument(String sentence, Maker maker, Act act) {
        call(sentence, IllegalArgumentException.class, maker, act);
    }

    static void byState(String sentence, Maker maker, Act act) {
        call(sentence, IllegalStateException.class, maker, act);
    }

    static void byIndex(String sentence, Maker maker, Act act) {
        call(sentence, IndexOutOfBoundsException.class, maker, act);
    }

    static void asUnsupported(String sentence, Maker maker, Act act) {
        call(sentence, UnsupportedOperationException.class, maker, act);
    }

    /** Objects with very many items have few calls left for being looked at. */
    private static void call(String sentence, Class<? extends RuntimeException> due, Maker maker, Act act) {
        LineBreaker refusing = maker.make();
        LineBreaker twin = maker.make();
        Check.fails(sentence, due, () -> {
            act.on(refusing);
            return 0;
        });
        sameAsTwin(sentence, refusing, twin);
    }

    /** keep refuses by its answer. */
    static void keep(String sentence, Maker maker, int n) {
        LineBreaker refusing = maker.make();
        LineBreaker twin = maker.make();
        Check.same(sentence + ", keep(" + n + ")", refusing.keep(n), false);
        sameAsTwin(sentence, refusing, twin);
    }

    private static void sameAsTwin(String sentence, LineBreaker refusing, LineBreaker twin) {
        boolean many = twin.items() > 200;
        String due = many ? Trace.ofItems(twin) : Trace.ofAll(twin);
        String got = many ? Trace.ofItems(refusing) : Trace.ofAll(refusing);
        Check.same(sentence + ": nothing has changed", got, due);
    }
}
