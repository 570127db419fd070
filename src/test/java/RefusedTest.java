import java.util.List;
import java.util.function.Consumer;
import java.util.function.ToIntFunction;

/** A call that is refused, and one that only asks, leaves all as it was: in an empty, an ordinary and a full block. */
public final class RefusedTest extends Boundary {
    private static Photograph photograph;
    private static Consumer<BlockBench> way;
    private static String state;
    private static int count;
    private static List<Integer> before;

    public static void main(String[] args) {
        in("no instructions", 0, 0, x -> { });
        in("no instructions, told and run", 0, 0, RefusedTest::empty);
        in("five instructions, a valid plan", 5, 0, RefusedTest::ordinary);
        in("five instructions, a plan that is not valid", 5, 2, RefusedTest::notValid);
        in("sixty instructions, a valid plan", 60, 0, RefusedTest::full);
        due.end("RefusedTest");
    }

    private static void empty(BlockBench x) {
        x.add(SET, 1, 0, 0, 0);
        x.add(SET, 1, 0, 0, 0);
        placeAll(x, 3, 3);
        x.check();
        x.cut(2);
        tell(x);
        x.latency(SET, 12);
        x.units(8);
        x.run(0);
        x.given(0, 3, 1);
    }

    private static void tell(BlockBench x) {
        for (int k = 0; k < 16; k++) {
            x.given(0, k, 1000 + k);
        }
        for (int k = 0; k < 64; k++) {
            x.given(1, k, 2000 + k);
        }
    }

    private static void ordinary(BlockBench x) {
        notValid(x);
        x.place(2, 30);
    }

    private static void notValid(BlockBench x) {
        tell(x);
        for (int kind = SET; kind <= STORE; kind++) {
            x.latency(kind, 2 + kind % 3);
        }
        x.units(2);
        x.add(LOAD, 1, 2, 0, 5);
        x.add(MUL, 3, 1, 1, 0);
        x.add(STORE, 0, 2, 3, 5);
        x.add(LOAD, 4, 2, 0, 69);
        x.add(LESS, 5, 4, 3, 0);
        placeAll(x, 0, 20, 20, 40, 60);
        x.check();
        x.run(1);
        x.given(0, 2, 77);
    }

    private static void full(BlockBench x) {
        tell(x);
        x.latency(LOAD, 12);
        x.units(3);
        for (int i = 0; i < 60; i++) {
            x.add(i % 7, i % 16, i * 5 % 16, i * 3 % 16, i);
            x.place(i, i * 16);
        }
        x.check();
        x.run(0);
        x.given(1, 9, 77);
    }

    private static void in(String name, int instructions, int verdict, Consumer<BlockBench> comes) {
        state = name;
        count = instructions;
        way = comes;
        photograph = new Photograph(instructions);
        before = photograph.take(way);
        due.sentence(state, "check()");
        due.is("it", made().check(), verdict);
        refusedAdds();
        refusedCuts();
        refusedLatencies();
        refusedUnits();
        refusedQuestions();
        refusedPlaces();
        refusedGivens();
        refusedRuns();
        questions();
    }

    /** The call is answered so, and all else as without it. */
    private static void refused(String call, int want, ToIntFunction<BlockBench> made) {
        due.sentence(state, call);
        due.is("it", made.applyAsInt(made()), want);
        asBefore(made);
    }

    private static BlockBench made() {
        BlockBench x = new BlockBench();
        way.accept(x);
        return x;
    }

    private static void asBefore(ToIntFunction<BlockBench> made) {
        List<Integer> behind = photograph.take(y -> {
            way.accept(y);
            made.applyAsInt(y);
        });
        due.is("how many answers", behind.size(), before.size());
        for (int n = 0; n < before.size(); n++) {
            due.is("answer " + n + " behind it", behind.get(n), before.get(n));
        }
    }

    private static void refusedAdds() {
        for (int kind : new int[] {-1, 7, MIN, MAX}) {
            refused("add of kind " + kind, BAD, x -> x.add(kind, 1, 2, 3, 4));
        }
        for (int r : NO_REGISTERS) {
            refused("add with d " + r, BAD, x -> x.add(SET, r, 2, 3, 4));
            refused("add with a " + r, BAD, x -> x.add(LOAD, 1, r, 3, 4));
            refused("add with b " + r, BAD, x -> x.add(STORE, 1, 2, r, 4));
        }
        if (count == 60) {
            for (int kind = SET; kind <= STORE; kind++) {
                int which = kind;
                refused("add of one too many", FULL, x -> x.add(which, 1, 2, 3, 4));
            }
        }
    }

    private static void refusedCuts() {
        for (int n : new int[] {-1, MIN, MAX, count + 1, 61}) {
            refused("cut(" + n + ")", BAD, x -> x.cut(n));
        }
        refused("cut(0)", count, x -> x.cut(0));
    }

    private static void refusedLatencies() {
        for (int kind : new int[] {-1, 7, MIN, MAX}) {
            refused("latency(" + kind + ", 3)", BAD, x -> x.latency(kind, 3));
        }
        for (int cycles : new int[] {0, 13, -1, MIN, MAX}) {
            refused("latency(SET, " + cycles + ")", BAD, x -> x.latency(SET, cycles));
            refused("latency(STORE, " + cycles + ")", BAD, x -> x.latency(STORE, cycles));
        }
    }

    private static void refusedUnits() {
        for (int n : new int[] {0, 9, -1, MIN, MAX}) {
            refused("units(" + n + ")", BAD, x -> x.units(n));
        }
    }

    private static void refusedQuestions() {
        for (int i : new int[] {-1, count, 60, MIN, MAX}) {
            refused("delay(" + i + ", 0)", BAD, x -> x.delay(i, 0));
            refused("delay(0, " + i + ")", BAD, x -> x.delay(0, i));
            refused("about(" + i + ", 3)", BAD, x -> x.about(i, 3));
            refused("listed(" + i + ")", BAD, x -> x.listed(i));
        }
        for (int what : new int[] {-1, 8, MIN, MAX}) {
            refused("about(0, " + what + ")", BAD, x -> x.about(0, what));
            refused("length(" + what + ")", BAD, x -> x.length(what));
            refused("wrong(" + what + ")", BAD, x -> x.wrong(what));
        }
        refused("about(0, 7)", BAD, x -> x.about(0, 7));
        refused("wrong(2)", BAD, x -> x.wrong(2));
        for (int[] place : NO_PLACES) {
            refused("value(" + place[0] + ", " + place[1] + ")", 0, x -> x.value(place[0], place[1]));
        }
    }

    private static void refusedPlaces() {
        for (int i : new int[] {-1, count, 60, MIN, MAX}) {
            refused("place(" + i + ", 0)", BAD, x -> x.place(i, 0));
        }
        for (int cycle : new int[] {-1, 1001, NO, MIN, MAX}) {
            refused("place(0, " + cycle + ")", BAD, x -> x.place(0, cycle));
            refused("place(last, " + cycle + ")", BAD, x -> x.place(count - 1, cycle));
        }
    }

    private static void refusedGivens() {
        for (int[] place : NO_PLACES) {
            refused("given(" + place[0] + ", " + place[1] + ", 9)", 0, x -> x.given(place[0], place[1], 9));
        }
    }

    private static void refusedRuns() {
        for (int how : new int[] {-1, 3, MIN, MAX}) {
            refused("run(" + how + ")", BAD, x -> x.run(how));
        }
        if (made().check() != 0) {
            refused("run(2)", NO, x -> x.run(2));
            refused("length(5)", NO, x -> x.length(5));
        }
        if (count > 7) {
            refused("length(4)", NO, x -> x.length(4));
        }
    }

    /** What only asks changes nothing, either. */
    private static void questions() {
        due.sentence(state, "calls that only ask");
        asBefore(x -> {
            for (int what = 0; what <= 7; what++) {
                x.length(what);
                x.about(0, what);
            }
            x.delay(0, 1);
            x.listed(0);
            x.wrong(0);
            x.wrong(1);
            x.value(0, 2);
            return x.value(1, 3);
        });
    }
}
