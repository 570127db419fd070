import java.util.Arrays;

/** Long series of calls on the program and on PlainBench, with every answer held against the other's. */
public final class ReferenceTest {
    private static final int CALLS = 512;
    private static final int[] ODD = {
        Integer.MIN_VALUE, Integer.MIN_VALUE + 1, -65, -64, -3, -2, -1, 0, 1, 2, 6, 7, 8, 9, 12, 13, 15, 16, 59, 60, 61,
        63, 64, 65, 1000, 1001, Integer.MAX_VALUE - 1, Integer.MAX_VALUE
    };

    private final Due due;
    private final String series;
    private final BlockBench bench = new BlockBench();
    private final PlainBench plain = new PlainBench();
    private final int most;
    private final int registers;
    private final int longest;
    private long seed;
    private int calls;
    private static int ownRuns;
    private static int verdictsSeen;
    private static int shorterThanList;

    private ReferenceTest(Due due, int number, int most, int registers, int longest) {
        this.due = due;
        this.series = "series " + number;
        this.most = most;
        this.registers = registers;
        this.longest = longest;
        this.seed = number * 7919L + 17L;
    }

    public static void main(String[] args) {
        Due due = new Due();
        int[] sizes = {3, 5, 7, 7, 7, 12, 25, 60};
        int[] files = {2, 3, 4, 6, 16};
        int[] latencies = {1, 2, 3, 5, 12};
        for (int number = 0; number < 600 && !due.anyWrong(); number++) {
            int most = sizes[number % sizes.length];
            new ReferenceTest(due, number, most, files[number % 5], latencies[number / 5 % 5]).callAll();
        }
        for (int number = 0; number < 120000 && !due.anyWrong(); number++) {
            new ReferenceTest(due, 1000 + number, 3 + number % 5, 2 + number / 5 % 14, 1 + number / 70 % 12).askShortest();
        }
        due.holds("own plans were run", ownRuns > 500);
        due.holds("every verdict of check() was seen", verdictsSeen == 15);
        due.holds("some list plans were not shortest: " + shorterThanList, shorterThanList > 40);
        due.end("ReferenceTest");
    }

    private int below(int bound) {
        seed = seed * 6364136223846793005L + 1442695040888963407L;
        return (int) ((seed >>> 33) % bound);
    }

    private int odd() {
        return ODD[below(ODD.length)];
    }

    /** Mostly an ordinary number below the bound, now and then one at an edge. */
    private int number(int bound) {
        return below(25) == 0 ? odd() : below(Math.max(1, bound));
    }

    private int instruction() {
        return number(plain.length(6));
    }

    private int constant() {
        return switch (below(4)) {
            case 0 -> odd();
            case 1 -> below(4) * 64 + below(3);
            case 2 -> -below(70);
            default -> below(5);
        };
    }

    private boolean more() {
        return calls < CALLS && !due.anyWrong();
    }

    private void is(String call, int got, int want) {
        calls++;
        due.is(series + ", call " + calls + ": " + call, got, want);
    }

    private void callAll() {
        for (int kind = 0; kind < 7; kind++) {
            latency(kind, 1 + below(longest));
        }
        units(1 + below(4));
        int first = below(most + 1);
        for (int i = 0; i < first; i++) {
            add();
        }
        while (more()) {
            callOne();
        }
    }

    /** Few list plans are longer than need be, so many blocks are asked for the shortest alone. */
    private void askShortest() {
        for (int kind = 0; kind < 7; kind++) {
            latency(kind, 1 + below(longest));
        }
        units(1 + below(3));
        for (int i = 0; i < most; i++) {
            add();
        }
        length(4);
    }

    private void callOne() {
        switch (below(22)) {
            case 0, 1 -> addOrCut();
            case 2 -> latency(number(7), below(20) == 0 ? odd() : 1 + below(longest));
            case 3 -> units(below(20) == 0 ? odd() : 1 + below(5));
            case 4, 5 -> delay(instruction(), instruction());
            case 6, 7, 8 -> about(instruction(), number(7));
            case 9 -> listed(instruction());
            case 10, 11, 12 -> length(number(8));
            case 13 -> length(4);
            case 14 -> place(instruction(), below(3) == 0 ? number(1001) : number(12));
            case 15 -> placeByPlan();
            case 16 -> checkAndWrong();
            case 17 -> given(number(2), number(64), constant());
            case 18, 19 -> runAndLook(number(3));
            case 20 -> value(number(2), number(64));
            default -> wrong(number(2));
        }
    }

    private void addOrCut() {
        if (plain.length(6) < most || below(4) == 0) {
            add();
        } else {
            int n = below(3) == 0 ? number(most + 1) : below(4);
            is("cut(" + n + ")", bench.cut(n), plain.cut(n));
        }
    }

    private int register() {
        return below(60) == 0 ? odd() : below(registers);
    }

    private void add() {
        int kind = number(7);
        int d = register();
        int a = below(3) == 0 ? 0 : register();
        int b = register();
        int c = constant();
        String call = "add(" + kind + ", " + d + ", " + a + ", " + b + ", " + c + ")";
        is(call, bench.add(kind, d, a, b, c), plain.add(kind, d, a, b, c));
    }

    private void latency(int kind, int cycles) {
        is("latency(" + kind + ", " + cycles + ")", bench.latency(kind, cycles), plain.latency(kind, cycles));
    }

    private void units(int n) {
        is("units(" + n + ")", bench.units(n), plain.units(n));
    }

    private void delay(int i, int j) {
        is("delay(" + i + ", " + j + ")", bench.delay(i, j), plain.delay(i, j));
    }

    private void about(int i, int what) {
        is("about(" + i + ", " + what + ")", bench.about(i, what), plain.about(i, what));
    }

    private void listed(int k) {
        is("listed(" + k + ")", bench.listed(k), plain.listed(k));
    }

    private void length(int what) {
        int want = plain.length(what);
        is("length(" + what + ")", bench.length(what), want);
        if (what == 4 && want != BlockBench.NO && want < plain.length(1)) {
            shorterThanList++;
        }
    }

    private void place(int i, int cycle) {
        is("place(" + i + ", " + cycle + ")", bench.place(i, cycle), plain.place(i, cycle));
    }

    /** A plan that is valid, or nearly so. */
    private void placeByPlan() {
        int which = 3 + below(3);
        int later = below(4) == 0 ? below(900) : below(3);
        int stretch = 1 + below(2);
        int count = plain.length(6);
        for (int i = 0; i < count && more(); i++) {
            place(i, plain.about(i, which) * stretch + later);
        }
        for (int k = below(3); k > 0 && count > 0 && more(); k--) {
            int i = below(count);
            place(i, Math.max(0, plain.about(i, 6) + below(3) - 1));
        }
        if (more()) {
            checkAndWrong();
        }
        if (more()) {
            runAndLook(2);
        }
        if (more()) {
            length(5);
        }
    }

    private void checkAndWrong() {
        int want = plain.check();
        verdictsSeen |= 1 << want;
        is("check()", bench.check(), want);
        wrong(0);
        wrong(1);
    }

    private void wrong(int part) {
        is("wrong(" + part + ")", bench.wrong(part), plain.wrong(part));
    }

    private void given(int which, int k, int v) {
        is("given(" + which + ", " + k + ", " + v + ")", bench.given(which, k, v), plain.given(which, k, v));
    }

    private void runAndLook(int how) {
        int want = plain.run(how);
        is("run(" + how + ")", bench.run(how), want);
        if (want >= 0) {
            ownRuns += how == 2 ? 1 : 0;
            int[] values = plain.valuesNow();
            plain.run(0);
            due.holds(series + ": a valid plan gives what the block gives as it stands",
                Arrays.equals(values, plain.valuesNow()));
        }
        for (int k = 0; k < 4; k++) {
            value(0, below(registers));
            value(1, below(64));
        }
    }

    private void value(int which, int k) {
        is("value(" + which + ", " + k + ")", bench.value(which, k), plain.value(which, k));
    }
}
