import java.util.Random;

/** Promises 2 to 16: runs of drawn calls on the class and on the Definition answer alike. */
public final class DefinitionTest {
    private static final int SIZE = 1073741823;
    private static final int NOTHING = LineBreaker.NOTHING;

    private final Random random;
    private final LineBreaker x = new LineBreaker();
    private final Definition due = new Definition();
    private final StringBuilder calls = new StringBuilder();
    private final int unit;
    private int looseness = 0;
    private int made = 0;

    /** How often the runs came to: 1 to 3 that pass, 4 not broken, 5 looseness that was asked for. */
    private static final int[] OUTCOMES = new int[6];

    private DefinitionTest(int seed) {
        random = new Random(seed);
        unit = new int[] {1, 1, 10, 1000, 100000, 3000000}[seed % 6];
    }

    public static void main(String[] args) {
        int runs = args.length > 0 ? Integer.parseInt(args[0]) : 6000;
        for (int seed = 0; seed < runs; seed++) {
            new DefinitionTest(seed).run();
        }
        for (int seed = 0; seed < runs / 300; seed++) {
            new DefinitionTest(seed).runLong();
        }
        System.out.println("broken in pass 1, 2, 3: " + OUTCOMES[1] + ", " + OUTCOMES[2] + ", " + OUTCOMES[3]
                + "; thrown: " + OUTCOMES[4] + "; with looseness: " + OUTCOMES[5]);
        for (int i = 1; i < 6; i++) {
            Check.same("outcome " + i + " was drawn", OUTCOMES[i] > 0, true);
        }
        Check.done();
    }

    private void run() {
        int rounds = 1 + random.nextInt(3);
        for (int round = 0; round < rounds; round++) {
            steer();
            int adds = random.nextInt(random.nextInt(6) == 0 ? 45 : 18);
            for (int i = 0; i < adds; i++) {
                add();
            }
            finishReplaced();
            breakAndCompare();
            if (random.nextInt(3) == 0) {
                wrongCall();
                compareAnswers();
            }
            steer();
            compareAnswers();
            breakAndCompare();
            int n = random.nextInt(due.items() + 3) - 1;
            compare("keep(" + n + ")", () -> x.keep(n) ? 1 : 0, () -> due.keep(n) ? 1 : 0);
            compareAnswers();
        }
    }

    /** A text of some fifty words, with hyphens in the longer ones. */
    private void runLong() {
        for (int word = 0; word < 50; word++) {
            addBox((2 + upTo(6)) * unit);
            if (chance(3)) {
                addHyphen(unit, NOTHING, 0);
                addBox((1 + upTo(4)) * unit);
            }
            addGlue(2 * unit, unit, 0, unit);
        }
        for (int i = 0; i < 4; i++) {
            steer();
            setOne(1, new int[] {200, 1000, 2000, 50}[i]);
            setWide(1, (30 + upTo(20)) * unit);
            breakAndCompare();
        }
    }

    private int upTo(int bound) {
        return random.nextInt(bound + 1);
    }

    private boolean chance(int oneIn) {
        return random.nextInt(oneIn) == 0;
    }

    private int small() {
        return (upTo(9) - (chance(8) ? 6 : 0)) * unit;
    }

    private void add() {
        switch (random.nextInt(12)) {
            case 0, 1, 2, 3 -> addBox(small());
            case 4, 5, 6 -> addGlue(small(), upTo(6) * unit, chance(12) ? upTo(3) : 0, upTo(3) * unit);
            case 7 -> addKern(small(), random.nextBoolean());
            case 8 -> addPenalty(drawPenalty());
            case 9, 10 -> addHyphen(drawMark(), drawMark(), chance(2) ? 0 : upTo(3));
            default -> {
                addBox(small());
                addGlue(2 * unit, 2 * unit, 0, unit);
            }
        }
    }

    private int drawPenalty() {
        int[] penalties = {-10000, 10000, -9999, 9999, 0, 50, -50, 100, -100000, 100000};
        return penalties[random.nextInt(penalties.length)];
    }

    private int drawMark() {
        return chance(3) ? NOTHING : upTo(2) * unit;
    }

    private void finishReplaced() {
        for (int i = 0; i < 10 && !chance(15); i++) {
            if (!throwsState()) {
                return;
            }
            addBox(unit);
        }
    }

    private boolean throwsState() {
        return Check.outcome(due::breakUp).equals("throws.IllegalStateException");
    }

    private void addBox(int width) {
        compare("box(" + width + ")", () -> x.box(width), () -> due.box(width));
    }

    private void addGlue(int width, int stretch, int order, int shrink) {
        compare("glue(" + width + ", " + stretch + ", " + order + ", " + shrink + ")",
                () -> x.glue(width, stretch, order, shrink), () -> due.glue(width, stretch, order, shrink));
    }

    private void addKern(int width, boolean explicit) {
        compare("kern(" + width + ", " + explicit + ")",
                () -> x.kern(width, explicit), () -> due.kern(width, explicit));
    }

    private void addPenalty(int p) {
        compare("penalty(" + p + ")", () -> x.penalty(p), () -> due.penalty(p));
    }

    private void addHyphen(int before, int behind, int replaced) {
        compare("hyphen(" + before + ", " + behind + ", " + replaced + ")",
                () -> x.hyphen(before, behind, replaced), () -> due.hyphen(before, behind, replaced));
    }

    private void steer() {
        setWide(0, (8 + upTo(20)) * unit);
        for (int i = 0; i < upTo(2); i++) {
            setWide(upTo(5), (5 + upTo(20)) * unit);
        }
        if (chance(20)) {
            setWide(upTo(19), upTo(9) * unit);
        }
        setOne(0, new int[] {-1, 100, 0, 10000}[upTo(3)]);
        setOne(1, new int[] {200, 0, 10000, 1000, 50}[upTo(4)]);
        setOne(8, chance(2) ? 0 : upTo(10) * unit);
        looseness = chance(2) ? 0 : upTo(6) - 3;
        setOne(9, looseness);
        if (chance(3)) {
            setOne(2, new int[] {0, 10, -10, -10000, 10000, 5000}[upTo(5)]);
            setOne(3, new int[] {50, 10000, -10000, -200, 9999}[upTo(4)]);
            setOne(4, new int[] {50, 10000, -10000, -200, 0}[upTo(4)]);
            setOne(5, new int[] {10000, 1000000, -1000000, 0}[upTo(3)]);
            setOne(6, new int[] {5000, 1000000, -1000000, 0}[upTo(3)]);
            setOne(7, new int[] {10000, 1000000, -1000000, 0}[upTo(3)]);
        }
        if (chance(4)) {
            int which = upTo(2);
            setAround(which, small() / 3, upTo(3) * unit, chance(3) ? upTo(3) : 0, upTo(2) * unit);
        }
        if (chance(6)) {
            setAround(2, 0, 65536, 1, 0);
        }
    }

    private void setOne(int which, int value) {
        compare("set(" + which + ", " + value + ")", () -> {
            x.set(which, value);
            return 0;
        }, () -> {
            due.set(which, value);
            return 0;
        });
    }

    private void setWide(int i, int width) {
        compare("wide(" + i + ", " + width + ")", () -> {
            x.wide(i, width);
            return 0;
        }, () -> {
            due.wide(i, width);
            return 0;
        });
    }

    private void setAround(int which, int width, int stretch, int order, int shrink) {
        compare("around(" + which + ", " + width + ", " + stretch + ", " + order + ", " + shrink + ")", () -> {
            x.around(which, width, stretch, order, shrink);
            return 0;
        }, () -> {
            due.around(which, width, stretch, order, shrink);
            return 0;
        });
    }

    private int any() {
        int[] edges = {Integer.MIN_VALUE, -SIZE - 2, NOTHING, -SIZE, -1, 0, 1, 2, 3, 4, 9, 10, 11, 19, 20, 400,
            10000, 10001, -10000, -10001, SIZE, SIZE + 1, Integer.MAX_VALUE};
        return edges[random.nextInt(edges.length)];
    }

    private void wrongCall() {
        int a = any();
        int b = any();
        switch (random.nextInt(8)) {
            case 0 -> addBox(a);
            case 1 -> addGlue(upTo(3), a, upTo(3), b);
            case 2 -> addKern(a, true);
            case 3 -> addPenalty(a);
            case 4 -> addHyphen(a, b, upTo(12) - 1);
            case 5 -> setOne(upTo(12) - 1, a);
            case 6 -> setWide(a, b);
            default -> setAround(upTo(4) - 1, upTo(9), a, upTo(5) - 1, b);
        }
    }

    private void breakAndCompare() {
        compare("breakUp()", x::breakUp, due::breakUp);
        OUTCOMES[due.pass()]++;
        if (due.pass() == 0) {
            OUTCOMES[4]++;
        }
        if (due.pass() > 0 && looseness != 0) {
            OUTCOMES[5]++;
        }
        compareAnswers();
    }

    private void compareAnswers() {
        compare("items()", x::items, due::items);
        compare("pass()", x::pass, due::pass);
        compare("nodes()", x::nodes, due::nodes);
        int lines = due.lines();
        for (int i = 0; i < lines; i++) {
            compareLine(i, 0, 5);
        }
        compareLine(lines, 0, 1);
        if (chance(4)) {
            compareLine(-1, 0, 1);
            compareLine(0, -1, 0);
            compareLine(lines - 1, 5, 6);
        }
    }

    private void compareLine(int i, int fromWhat, int toWhat) {
        for (int what = fromWhat; what < toWhat; what++) {
            int fact = what;
            compare("line(" + i + ", " + what + ")", () -> x.line(i, fact), () -> due.line(i, fact));
        }
        compare("total(" + i + ")", () -> x.total(i), () -> due.total(i));
    }

    /** What an object answers after its 512th call is free. */
    private void compare(String call, Check.Call got, Check.Call want) {
        if (made == 512) {
            return;
        }
        made++;
        String gotten = Check.outcome(got);
        String wanted = Check.outcome(want);
        calls.append(call).append(" = ").append(wanted).append("; ");
        if (!gotten.equals(wanted)) {
            Check.same(calls.toString(), gotten, wanted);
            Check.done();
        }
        Check.same(call, gotten, wanted);
    }
}
