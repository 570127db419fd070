import java.util.ArrayList;
import java.util.List;
import java.util.function.ToIntFunction;

/** Each sentence of "What it is" and of "Terms" that names a boundary case has a test of its own here. */
public final class BoundaryTermsTest extends Boundary {
    private static final String ABOUT = "What it is";
    private static final String TERMS = "Terms";

    public static void main(String[] args) {
        lastCallThatCounts();
        laterCallsEnd();
        objectsApart();

        sixtyAtMost();
        sixtyInEveryPlan();
        registers();
        kinds();
        setBecomesAnyNumber();
        wrapping();
        less();
        loadModulo();
        storeModulo();
        notNamedAtAdd();
        notNamedInDependences();
        notNamedInRuns();
        latencies();
        unitsRange();

        onlyOneBefore();
        readsWhatIsWritten();
        noneBetweenWhatIsRead();
        writesWhatIsRead();
        bothWrite();
        noneBetweenWrites();
        greatestOfThese();
        storeThenLoad();
        loadThenStore();
        twoStores();
        otherRegisters();
        writtenFromIOnUpToBeforeJ();
        numbersModulo();

        cyclesFromZeroOn();
        delaysKeptExactly();
        noMoreThanUnits();
        lengthIsTheGreatestSum();
        wayIsAtLeastTheLatency();
        longestWays();
        early();
        slack();
        asLongAsThereIsRoom();
        emptyCycles();
        thisOneMayBeAmongThem();
        leastNumberOfLikeWays();
        inOrderNotBeforeTheOneAhead();
        inOrderHasRoom();
        inOrderOfTheListPlan();
        shortestOfAll();
        shortestBelowTheListPlan();
        shortestIsValid();

        toldAtFirst();
        oneAfterTheOther();
        firstItComesThenTheyRead();
        endsWhenAllHasCome();
        due.end("BoundaryTermsTest");
    }

    // ---- What it is

    /** Each method, as the 512th call of an object, still answers as is due. */
    private static void lastCallThatCounts() {
        due.sentence(ABOUT, "at most 512 calls after it has been made");
        List<ToIntFunction<BlockBench>> calls = new ArrayList<>();
        List<Integer> wants = new ArrayList<>();
        expect(calls, wants, x -> x.add(SET, 1, 0, 0, 0), 3);
        expect(calls, wants, x -> x.cut(1), 2);
        expect(calls, wants, x -> x.latency(MUL, 1), 5);
        expect(calls, wants, x -> x.units(1), 2);
        expect(calls, wants, x -> x.delay(0, 2), 5);
        expect(calls, wants, x -> x.about(0, 0), 6);
        expect(calls, wants, x -> x.listed(2), 2);
        expect(calls, wants, x -> x.length(4), 6);
        expect(calls, wants, x -> x.place(2, 9), 5);
        expect(calls, wants, x -> x.check(), 0);
        expect(calls, wants, x -> x.wrong(0), NO);
        expect(calls, wants, x -> x.given(0, 2, 0), 7);
        expect(calls, wants, x -> x.run(2), 6);
        expect(calls, wants, x -> x.value(0, 3), 49);
        for (int n = 0; n < calls.size(); n++) {
            BlockBench x = after511Calls();
            due.is("the 512th call, method " + n, calls.get(n).applyAsInt(x), wants.get(n));
        }
    }

    private static void expect(List<ToIntFunction<BlockBench>> calls, List<Integer> wants,
                               ToIntFunction<BlockBench> call, int want) {
        calls.add(call);
        wants.add(want);
    }

    private static BlockBench after511Calls() {
        BlockBench x = new BlockBench();
        x.add(MUL, 3, 2, 2, 0);
        x.add(SET, 4, 0, 0, 1);
        x.add(ADD, 5, 3, 4, 0);
        x.latency(MUL, 5);
        x.units(2);
        x.given(0, 2, 7);
        placeAll(x, 0, 0, 5);
        x.run(1);
        for (int call = 10; call < 511; call++) {
            due.is("call " + (call + 1), x.length(6), 3);
        }
        return x;
    }

    /** Their answers are free, but none may throw. */
    private static void laterCallsEnd() {
        due.sentence(ABOUT, "what later calls answer is free");
        BlockBench x = after511Calls();
        for (int n = 0; n < 600; n++) {
            x.add(n % 7, n % 16, n % 16, n % 16, n);
            x.place(n % 60, n);
            x.length(4);
            x.run(n % 3);
            x.cut(n % 5);
        }
        due.holds("3000 calls more have ended", true);
    }

    private static void objectsApart() {
        due.sentence(ABOUT, "An object is used for");
        BlockBench x = new BlockBench();
        BlockBench y = new BlockBench();
        x.add(SET, 1, 0, 0, 5);
        x.latency(SET, 9);
        x.units(4);
        x.given(0, 2, 3);
        x.given(1, 2, 3);
        x.place(0, 1);
        x.run(0);
        due.is("another object, length(6)", y.length(6), 0);
        due.is("another object, value(0, 1)", y.value(0, 1), 0);
        due.is("another object, given(0, 2, 0)", y.given(0, 2, 0), 0);
        due.is("another object, given(1, 2, 0)", y.given(1, 2, 0), 0);
        due.is("another object, latency(SET, 1)", y.latency(SET, 1), 1);
        due.is("another object, units(1)", y.units(1), 1);
        y.add(SET, 1, 0, 0, 6);
        due.is("another object, about(0, 6)", y.about(0, 6), NO);
    }

    // ---- Instructions

    private static void sixtyAtMost() {
        due.sentence(TERMS, "(60 at most)");
        BlockBench x = apart(59);
        due.is("59 are there", x.length(6), 59);
        due.is("the 60th", x.add(STORE, 0, 1, 2, 59), 59);
        due.is("the 61st", x.add(STORE, 0, 1, 2, 60), FULL);
        due.is("60 are there", x.length(6), 60);
    }

    private static void sixtyInEveryPlan() {
        due.sentence(TERMS, "(60 at most)");
        BlockBench x = apart(60);
        x.units(8);
        for (int i = 0; i < 60; i++) {
            due.is("list plan", x.about(i, 3), i / 8);
            due.is("in order as it stands", x.about(i, 4), i / 8);
            due.is("in order by the list plan", x.about(i, 5), i / 8);
            due.is("listed", x.listed(i), i);
            x.place(i, 999 - i / 8);
        }
        due.is("list plan", x.length(1), 8);
        due.is("own plan", x.length(5), 1000);
        due.is("no dependences", x.length(7), 0);
        BlockBench y = chain(60);
        due.is("the last two of 60", y.delay(58, 59), 1);
        due.is("59 dependences", y.length(7), 59);
        due.is("60 in a row", y.run(1), 60);
    }

    private static void registers() {
        due.sentence(TERMS, "with registers d, a, b (0 .. 15)");
        for (int kind = SET; kind <= STORE; kind++) {
            int d = namesD(kind) ? 15 : 0;
            int a = namesA(kind) ? 15 : 0;
            int b = namesB(kind) ? 15 : 0;
            due.is("least registers of " + kind, new BlockBench().add(kind, 0, 0, 0, 0), 0);
            due.is("greatest registers of " + kind, new BlockBench().add(kind, d, a, b, 0), 0);
            for (int r : NO_REGISTERS) {
                due.is("d " + r + " of " + kind, new BlockBench().add(kind, r, 0, 0, 0), namesD(kind) ? BAD : 0);
                due.is("a " + r + " of " + kind, new BlockBench().add(kind, 0, r, 0, 0), namesA(kind) ? BAD : 0);
                due.is("b " + r + " of " + kind, new BlockBench().add(kind, 0, 0, r, 0), namesB(kind) ? BAD : 0);
            }
        }
        BlockBench x = block(add(0, 15, 0), add(15, 15, 0));
        x.given(0, 0, 3);
        x.given(0, 15, 40);
        x.run(0);
        due.is("register 0", x.value(0, 0), 43);
        due.is("register 15", x.value(0, 15), 83);
        due.is("15 and 0 in dependences", x.delay(0, 1), 1);
    }

    private static void kinds() {
        due.sentence(TERMS, "each of a KIND");
        BlockBench x = new BlockBench();
        due.is("kind -1", x.add(-1, 0, 0, 0, 0), BAD);
        due.is("kind 7", x.add(7, 0, 0, 0, 0), BAD);
        due.is("least kind", x.add(MIN, 0, 0, 0, 0), BAD);
        due.is("greatest kind", x.add(MAX, 0, 0, 0, 0), BAD);
        due.is("kind 0", x.add(0, 1, 0, 0, 9), 0);
        due.is("kind 6", x.add(6, 0, 0, 1, 2), 1);
        x.run(0);
        due.is("kind 0 is SET", x.value(0, 1), 9);
        due.is("kind 6 is STORE", x.value(1, 2), 9);
    }

    private static void setBecomesAnyNumber() {
        due.sentence(TERMS, "0 SET: d becomes c.");
        for (int c : new int[] {MIN, -1, 0, 1, 64, MAX}) {
            BlockBench x = new BlockBench();
            x.given(0, 3, 77);
            x.add(SET, 3, 0, 0, c);
            x.run(0);
            due.is("SET to " + c, x.value(0, 3), c);
        }
    }

    /** What a kind makes of a and b, as it stands and by both plans. */
    private static void becomes(int kind, int a, int b, int want) {
        BlockBench x = new BlockBench();
        x.given(0, 1, a);
        x.given(0, 2, b);
        x.add(kind, 3, 1, 2, 0);
        x.place(0, 0);
        for (int how = 0; how <= 2; how++) {
            x.given(0, 3, 1234567);
            x.run(how);
            due.is("kind " + kind + " of " + a + ", " + b + " by run(" + how + ")", x.value(0, 3), want);
        }
    }

    private static void wrapping() {
        due.sentence(TERMS, "a + b, a - b, a * b (32 bits, wrapping)");
        becomes(ADD, MAX - 1, 1, MAX);
        becomes(ADD, MAX, 1, MIN);
        becomes(ADD, MIN, -1, MAX);
        becomes(ADD, MIN, MIN, 0);
        becomes(SUB, MIN + 1, 1, MIN);
        becomes(SUB, MIN, 1, MAX);
        becomes(SUB, MAX, -1, MIN);
        becomes(SUB, 0, MIN, MIN);
        becomes(MUL, 46340, 46340, 2147395600);
        becomes(MUL, 46341, 46341, -2147479015);
        becomes(MUL, 65536, 65536, 0);
        becomes(MUL, 65537, 65537, 131073);
        becomes(MUL, MIN, -1, MIN);
        becomes(MUL, MAX, 2, -2);
    }

    private static void less() {
        due.sentence(TERMS, "1 if a is less than b, else 0");
        becomes(LESS, 4, 5, 1);
        becomes(LESS, 5, 5, 0);
        becomes(LESS, 6, 5, 0);
        becomes(LESS, -1, 0, 1);
        becomes(LESS, 0, -1, 0);
        becomes(LESS, MIN, MAX, 1);
        becomes(LESS, MAX, MIN, 0);
        becomes(LESS, MIN, MIN, 0);
        becomes(LESS, MAX - 1, MAX, 1);
    }

    /** What a register a and a number c give as a word's place. */
    private static final int[][] SUMS = {
        {0, 0, 0}, {0, 63, 63}, {0, 64, 0}, {0, 65, 1}, {0, -1, 63}, {0, -64, 0}, {0, -65, 63},
        {63, 0, 63}, {63, 1, 0}, {64, 0, 0}, {-1, 0, 63}, {-1, 1, 0}, {-64, 0, 0}, {-65, 0, 63},
        {MAX, 0, 63}, {MAX, 1, 0}, {MAX, MAX, 62}, {MIN, 0, 0}, {MIN, -1, 63}, {MIN, MIN, 0}, {MIN, MAX, 63},
    };

    private static void loadModulo() {
        due.sentence(TERMS, "5 LOAD: d becomes the word of memory at (a + c) modulo 64 (0 .. 63).");
        for (int[] sum : SUMS) {
            for (int how = 0; how <= 2; how++) {
                BlockBench x = new BlockBench();
                for (int k = 0; k < 64; k++) {
                    x.given(1, k, 1000 + k);
                }
                x.given(0, 1, sum[0]);
                x.add(LOAD, 2, 1, 0, sum[1]);
                x.place(0, 0);
                x.run(how);
                due.is("LOAD at " + sum[0] + " + " + sum[1] + " by run(" + how + ")", x.value(0, 2), 1000 + sum[2]);
            }
        }
    }

    private static void storeModulo() {
        due.sentence(TERMS, "6 STORE: the word there becomes b.");
        for (int[] sum : SUMS) {
            for (int how = 0; how <= 2; how++) {
                BlockBench x = new BlockBench();
                x.given(0, 1, sum[0]);
                x.given(0, 2, 9);
                x.add(STORE, 0, 1, 2, sum[1]);
                x.place(0, 0);
                x.run(how);
                for (int k = 0; k < 64; k++) {
                    due.is("STORE at " + sum[0] + " + " + sum[1] + ", word " + k + " by run(" + how + ")",
                        x.value(1, k), k == sum[2] ? 9 : 0);
                }
            }
        }
    }

    private static void notNamedAtAdd() {
        due.sentence(TERMS, "What a kind does not name is not looked at.");
        for (int r : NO_REGISTERS) {
            BlockBench x = new BlockBench();
            due.is("SET with a " + r, x.add(SET, 1, r, 0, 0), 0);
            due.is("SET with b " + r, x.add(SET, 1, 0, r, 0), 1);
            due.is("LOAD with b " + r, x.add(LOAD, 1, 2, r, 0), 2);
            due.is("STORE with d " + r, x.add(STORE, r, 1, 2, 0), 3);
        }
    }

    private static void notNamedInDependences() {
        due.sentence(TERMS, "What a kind does not name is not looked at.");
        for (int r : new int[] {0, 3, 15, 16, -1, MIN, MAX}) {
            int register = r < 0 || r > 15 ? 0 : r;
            BlockBench x = block(set(register), new int[] {SET, 7, r, r, 0}, new int[] {LOAD, 8, 9, r, 0});
            due.is("SET reads no a, no b", x.delay(0, 1), NO);
            due.is("LOAD reads no b", x.delay(0, 2), NO);
            BlockBench y = block(new int[] {SET, 7, r, r, 0}, new int[] {LOAD, 8, 9, r, 0}, set(register));
            due.is("a and b of a SET may be written", y.delay(0, 2), NO);
            due.is("b of a LOAD may be written", y.delay(1, 2), NO);
            BlockBench z = block(new int[] {STORE, r, 9, 10, 0}, add(5, register, register), set(register));
            due.is("STORE writes no d that is read", z.delay(0, 1), NO);
            due.is("STORE writes no d that is written", z.delay(0, 2), NO);
            BlockBench w = block(set(register), new int[] {STORE, r, 9, 10, 0}, add(5, register, register));
            due.is("STORE between writes no d", w.delay(0, 2), 1);
            due.is("STORE writes no d behind a SET", w.delay(0, 1), NO);
        }
        BlockBench x = block(store(1, 4, 2), new int[] {ADD, 3, 1, 4, 4}, new int[] {SET, 5, 1, 1, 4});
        due.is("c of an ADD is no place", x.delay(0, 1), NO);
        due.is("c of a SET is no place", x.delay(0, 2), NO);
    }

    private static void notNamedInRuns() {
        due.sentence(TERMS, "What a kind does not name is not looked at.");
        for (int r : new int[] {0, 3, 16, -1, MIN, MAX}) {
            for (int how = 0; how <= 1; how++) {
                BlockBench x = new BlockBench();
                x.given(0, 0, 5);
                x.given(0, 3, 6);
                x.given(1, 9, 70);
                x.add(STORE, r, 1, 3, 8);
                x.add(LOAD, 4, 1, r, 9);
                x.add(ADD, 6, 0, 3, r);
                x.run(how);
                due.is("register 0 as it was", x.value(0, 0), 5);
                due.is("register 3 as it was", x.value(0, 3), 6);
                due.is("LOAD", x.value(0, 4), 70);
                due.is("STORE", x.value(1, 8), 6);
                due.is("ADD takes no c", x.value(0, 6), 11);
            }
        }
    }

    private static void latencies() {
        due.sentence(TERMS, "LATENCY of a kind: 1 .. 12 cycles (1 at first).");
        for (int kind = SET; kind <= STORE; kind++) {
            BlockBench x = new BlockBench();
            x.add(kind, 1, 1, 1, 0);
            due.is("1 at first", x.length(1), 1);
            due.is("1 at first, told", x.latency(kind, 12), 1);
            due.is("12", x.length(1), 12);
            due.is("13", x.latency(kind, 13), BAD);
            due.is("12 still", x.length(1), 12);
            due.is("12 told", x.latency(kind, 1), 12);
            due.is("0", x.latency(kind, 0), BAD);
            due.is("1 again", x.length(1), 1);
        }
    }

    private static void unitsRange() {
        due.sentence(TERMS, "UNITS: 1 .. 8 (1 at first).");
        BlockBench x = apart(9);
        due.is("1 at first", x.length(1), 9);
        due.is("1 at first, told", x.units(8), 1);
        due.is("8, nine instructions", x.length(1), 2);
        due.is("9", x.units(9), BAD);
        due.is("8 still", x.length(1), 2);
        x.cut(1);
        due.is("8, eight instructions", x.length(1), 1);
        due.is("8 told", x.units(1), 8);
        due.is("0", x.units(0), BAD);
        due.is("1 again", x.length(1), 8);
    }

    // ---- Dependences

    private static void onlyOneBefore() {
        due.sentence(TERMS, "DEPENDENCE of an instruction j on one before it, i");
        BlockBench x = block(add(1, 1, 1), add(1, 1, 1));
        due.is("on the one before", x.delay(0, 1), 1);
        due.is("on itself, the first", x.delay(0, 0), NO);
        due.is("on itself, the last", x.delay(1, 1), NO);
        due.is("on one behind", x.delay(1, 0), NO);
        due.is("only one", x.length(7), 1);
    }

    private static void readsWhatIsWritten() {
        due.sentence(TERMS, "the LATENCY of i, if j reads a register that i writes");
        for (int latency : new int[] {1, 12}) {
            BlockBench x = block(mul(1, 2, 3), add(4, 1, 5), add(6, 5, 1), load(7, 1, 0), store(1, 9, 8), store(9, 9, 1));
            x.latency(MUL, latency);
            due.is("a of ADD", x.delay(0, 1), latency);
            due.is("b of ADD", x.delay(0, 2), latency);
            due.is("a of LOAD", x.delay(0, 3), latency);
            due.is("a of STORE", x.delay(0, 4), latency);
            due.is("b of STORE", x.delay(0, 5), latency);
        }
    }

    private static void noneBetweenWhatIsRead() {
        due.sentence(TERMS, "and none between them writes it");
        BlockBench x = block(mul(1, 2, 3), set(1), set(9), add(4, 1, 1));
        due.is("the one behind i writes it", x.delay(0, 3), NO);
        due.is("that one is not between", x.delay(1, 3), 1);
        BlockBench y = block(mul(1, 2, 3), set(9), set(1), add(4, 1, 1));
        due.is("the one before j writes it", y.delay(0, 3), NO);
        BlockBench z = block(mul(1, 2, 3), add(9, 1, 1), add(8, 1, 1), add(1, 1, 1));
        z.latency(MUL, 7);
        due.is("those between read it, j writes it too", z.delay(0, 3), 7);
        BlockBench w = block(set(1), mul(1, 1, 1), add(4, 1, 1));
        due.is("i writes what it reads", w.delay(1, 2), 1);
        due.is("one register of two is hidden", block(mul(1, 2, 3), set(1), add(4, 1, 2)).delay(0, 2), NO);
        due.is("only the other one is hidden", block(mul(1, 2, 3), set(5), add(4, 1, 5)).delay(0, 2), 1);
    }

    private static void writesWhatIsRead() {
        due.sentence(TERMS, "0, if j writes a register that i reads, and none between writes it");
        BlockBench x = block(add(3, 1, 2), set(1), set(2), set(1));
        x.latency(ADD, 12);
        x.latency(SET, 12);
        due.is("a", x.delay(0, 1), 0);
        due.is("b", x.delay(0, 2), 0);
        due.is("one between writes it", x.delay(0, 3), NO);
        BlockBench y = block(store(1, 0, 2), set(1), set(2), load(4, 5, 0), set(5));
        due.is("a of STORE", y.delay(0, 1), 0);
        due.is("b of STORE", y.delay(0, 2), 0);
        due.is("a of LOAD", y.delay(3, 4), 0);
        due.is("both read it alone", block(add(3, 1, 1), add(4, 1, 1)).delay(0, 1), NO);
    }

    private static void bothWrite() {
        due.sentence(TERMS, "1, or (if that is greater) LATENCY of i less that of j and 1, if both write a register");
        int[][] cases = {
            {1, 1, 1}, {1, 2, 1}, {2, 1, 2}, {6, 6, 1}, {6, 7, 1}, {7, 6, 2}, {8, 6, 3},
            {12, 12, 1}, {12, 11, 2}, {11, 12, 1}, {12, 1, 12}, {1, 12, 1},
        };
        for (int[] one : cases) {
            BlockBench x = block(mul(1, 2, 3), set(1));
            x.latency(MUL, one[0]);
            x.latency(SET, one[1]);
            due.is("latencies " + one[0] + ", " + one[1], x.delay(0, 1), one[2]);
        }
    }

    private static void noneBetweenWrites() {
        due.sentence(TERMS, "if both write a register that none between writes");
        due.is("one between", block(set(1), set(1), set(1)).delay(0, 2), NO);
        due.is("one between writes another", block(set(1), set(2), set(1)).delay(0, 2), 1);
        due.is("one between reads it", block(set(1), add(2, 1, 1), set(1)).delay(0, 2), 1);
        BlockBench x = new BlockBench();
        x.add(SET, 1, 0, 0, 0);
        for (int i = 1; i < 59; i++) {
            x.add(SET, 2, 0, 0, 0);
        }
        x.add(SET, 1, 0, 0, 0);
        due.is("the first and the last of 60", x.delay(0, 59), 1);
    }

    private static void greatestOfThese() {
        due.sentence(TERMS, "with a DELAY; the greatest of these");
        BlockBench x = block(mul(1, 1, 2), add(1, 1, 2));
        x.latency(MUL, 5);
        x.latency(ADD, 3);
        due.is("reads: 5, both write: 3, writes what is read: 0", x.delay(0, 1), 5);
        due.is("one pair is one dependence", x.length(7), 1);
        BlockBench y = block(mul(1, 1, 2), set(1));
        y.latency(MUL, 5);
        due.is("both write: 5, writes what is read: 0", y.delay(0, 1), 5);
        y.latency(SET, 12);
        due.is("both write: 1, writes what is read: 0", y.delay(0, 1), 1);
        BlockBench z = block(store(1, 0, 2), load(1, 1, 0));
        z.latency(STORE, 4);
        due.is("memory: 4, writes what is read: 0", z.delay(0, 1), 4);
        BlockBench w = block(load(2, 1, 0), store(1, 0, 2));
        w.latency(LOAD, 6);
        due.is("reads: 6, memory: 0", w.delay(0, 1), 6);
        BlockBench v = block(mul(1, 2, 3), add(2, 4, 1));
        v.latency(MUL, 1);
        due.is("reads: 1, writes what is read: 0", v.delay(0, 1), 1);
    }

    private static void storeThenLoad() {
        due.sentence(TERMS, "the LATENCY of STORE, if i is a STORE and j a LOAD");
        for (int latency : new int[] {1, 12}) {
            BlockBench x = block(store(1, 5, 2), load(3, 1, 5));
            x.latency(STORE, latency);
            x.latency(LOAD, 7);
            due.is("at one place", x.delay(0, 1), latency);
        }
        BlockBench y = block(store(1, 5, 2), store(1, 5, 4), load(3, 1, 5));
        due.is("a STORE between hides none", y.delay(0, 2), 1);
    }

    private static void loadThenStore() {
        due.sentence(TERMS, "0 the other way round");
        BlockBench x = block(load(3, 1, 5), store(1, 5, 2));
        x.latency(STORE, 12);
        x.latency(LOAD, 12);
        due.is("at one place", x.delay(0, 1), 0);
    }

    private static void twoStores() {
        due.sentence(TERMS, "1 for two STORES");
        BlockBench x = block(store(1, 5, 2), store(1, 5, 3));
        due.is("latency 1", x.delay(0, 1), 1);
        x.latency(STORE, 12);
        due.is("latency 12", x.delay(0, 1), 1);
        due.is("two LOADs do not depend", block(load(3, 1, 5), load(4, 1, 5)).delay(0, 1), NO);
    }

    private static void otherRegisters() {
        due.sentence(TERMS, "unless both have the same register a");
        due.is("other registers", block(store(1, 5, 2), load(3, 4, 6)).delay(0, 1), 1);
        due.is("the same", block(store(1, 5, 2), load(3, 1, 6)).delay(0, 1), NO);
        due.is("registers 0 and 15", block(store(0, 5, 2), load(3, 15, 6)).delay(0, 1), 1);
        due.is("register 0", block(store(0, 5, 2), load(3, 0, 6)).delay(0, 1), NO);
        due.is("register 15", block(store(15, 5, 2), load(3, 15, 6)).delay(0, 1), NO);
    }

    private static void writtenFromIOnUpToBeforeJ() {
        due.sentence(TERMS, "which none from i on up to before j writes");
        due.is("i writes it", block(load(1, 1, 5), store(1, 6, 2)).delay(0, 1), 1);
        due.is("i writes it, one between hides that", block(load(1, 1, 5), set(1), store(1, 6, 2)).delay(0, 2), 0);
        due.is("the one behind i writes it", block(store(1, 5, 2), set(1), set(7), load(3, 1, 6)).delay(0, 3), 1);
        due.is("the one before j writes it", block(store(1, 5, 2), set(7), set(1), load(3, 1, 6)).delay(0, 3), 1);
        due.is("others are written", block(store(1, 5, 2), set(7), set(0), load(3, 1, 6)).delay(0, 3), NO);
        due.is("the one before i writes it", block(set(1), store(1, 5, 2), load(3, 1, 6)).delay(1, 2), NO);
        BlockBench x = block(store(1, 5, 2), load(1, 1, 6));
        x.latency(STORE, 9);
        due.is("j writes it: only what i read", x.delay(0, 1), 0);
    }

    private static void numbersModulo() {
        due.sentence(TERMS, "and their numbers c differ modulo 64");
        int[][] alike = {{0, 0}, {0, 64}, {64, 0}, {63, -1}, {-1, 63}, {-64, 64}, {MIN, 0}, {MAX, 63}, {MAX, -1}, {5, 133}};
        int[][] others = {{0, 1}, {1, 0}, {0, 63}, {0, -1}, {1, -1}, {63, 64}, {64, 65}, {MIN, MAX}, {MIN, 1}, {MAX, 62}, {32, 0}};
        for (int[] c : alike) {
            due.is("numbers " + c[0] + ", " + c[1], block(store(1, c[0], 2), load(3, 1, c[1])).delay(0, 1), 1);
        }
        for (int[] c : others) {
            due.is("numbers " + c[0] + ", " + c[1], block(store(1, c[0], 2), load(3, 1, c[1])).delay(0, 1), NO);
        }
    }

    // ---- Plans

    private static void cyclesFromZeroOn() {
        due.sentence(TERMS, "A PLAN gives each instruction a cycle, 0 or more.");
        BlockBench x = block(set(1));
        checkIs("no cycle", x, 1, 0, NO);
        due.is("cycle -1", x.place(0, -1), BAD);
        checkIs("still no cycle", x, 1, 0, NO);
        due.is("cycle 0", x.place(0, 0), NO);
        checkIs("cycle 0", x, 0, NO, NO);
        due.is("list plan", x.about(0, 3), 0);
        due.is("in order", x.about(0, 4), 0);
    }

    private static void delaysKeptExactly() {
        due.sentence(TERMS, "It is VALID, if by each dependence j's cycle is at least i's and the DELAY");
        BlockBench x = block(mul(1, 2, 3), add(4, 1, 1));
        x.latency(MUL, 5);
        placeAll(x, 10, 14);
        checkIs("one cycle too early", x, 2, 0, 1);
        placeAll(x, 10, 15);
        checkIs("at the very cycle", x, 0, NO, NO);
        placeAll(x, 10, 16);
        checkIs("one cycle later", x, 0, NO, NO);
        BlockBench y = block(add(3, 1, 1), set(1));
        y.units(2);
        placeAll(y, 4, 4);
        checkIs("delay 0 in one cycle", y, 0, NO, NO);
        placeAll(y, 4, 3);
        checkIs("delay 0 before it", y, 2, 0, 1);
        placeAll(y, 1000, 1000);
        checkIs("delay 0 in the last cycle", y, 0, NO, NO);
        placeAll(y, 0, 0);
        checkIs("delay 0 in the first cycle", y, 0, NO, NO);
        BlockBench z = block(store(1, 0, 2), set(7));
        placeAll(z, 9, 3);
        checkIs("without a dependence in any order", z, 0, NO, NO);
    }

    private static void noMoreThanUnits() {
        due.sentence(TERMS, "and no cycle has more instructions than UNITS");
        for (int units = 1; units <= 8; units++) {
            BlockBench x = apart(units + 1);
            x.units(units);
            for (int i = 0; i < units; i++) {
                x.place(i, 6);
            }
            x.place(units, 7);
            checkIs("as many as units " + units, x, 0, NO, NO);
            x.place(units, 6);
            checkIs("one more than units " + units, x, 3, 6, NO);
        }
    }

    private static void lengthIsTheGreatestSum() {
        due.sentence(TERMS, "Its LENGTH is the greatest sum of a cycle and that instruction's LATENCY (0 without instructions).");
        BlockBench x = new BlockBench();
        for (int what = 1; what <= 5; what++) {
            due.is("no instructions, length(" + what + ")", x.length(what), 0);
        }
        x.latency(MUL, 12);
        x.add(MUL, 1, 2, 3, 0);
        x.add(SET, 4, 0, 0, 0);
        placeAll(x, 3, 13);
        due.is("the first one ends later", x.length(5), 15);
        placeAll(x, 3, 14);
        due.is("both end at once", x.length(5), 15);
        placeAll(x, 3, 15);
        due.is("the last one ends later", x.length(5), 16);
        placeAll(x, 1000, 0);
        due.is("the greatest cycle and latency", x.length(5), 1012);
        due.is("list plan", x.length(1), 12);
        x.cut(2);
        due.is("all gone", x.length(5), 0);
    }

    private static void wayIsAtLeastTheLatency() {
        due.sentence(TERMS, "WAY of an instruction: its LATENCY, or, if that is greater, the greatest sum");
        BlockBench x = block(mul(1, 2, 3), set(2));
        x.latency(MUL, 6);
        x.latency(SET, 5);
        aboutIs("delay 0 and 5 are less than 6", x, 0, 6, 5);
        x.latency(SET, 6);
        aboutIs("delay 0 and 6 are 6", x, 0, 6, 6);
        x.latency(SET, 7);
        aboutIs("delay 0 and 7 are more", x, 0, 7, 7);
        BlockBench y = block(mul(1, 2, 3), add(4, 1, 1), load(5, 1, 0));
        y.latency(MUL, 3);
        y.latency(ADD, 2);
        y.latency(LOAD, 4);
        aboutIs("the greatest sum of two", y, 0, 7, 2, 4);
        aboutIs("nothing depends", block(set(1)), 0, 1);
        BlockBench z = block(set(5), mul(1, 2, 3), add(4, 1, 1));
        z.latency(MUL, 12);
        aboutIs("nothing depends, though a long way stands behind", z, 0, 1, 13, 1);
    }

    private static void longestWays() {
        due.sentence(TERMS, "the greatest sum of a DELAY by which another one depends on it and that one's WAY");
        BlockBench x = chain(60);
        x.latency(ADD, 12);
        due.is("the longest of all", x.about(0, 0), 720);
        due.is("the last of all", x.about(59, 0), 12);
        due.is("length(0)", x.length(0), 720);
        due.is("list plan", x.length(1), 720);
        due.is("in order", x.length(2), 720);
        due.is("run(0)", x.run(0), 720);
        due.is("run(1)", x.run(1), 720);
    }

    private static void early() {
        due.sentence(TERMS, "EARLY: the least cycle by dependences alone.");
        BlockBench x = block(mul(1, 2, 3), mul(4, 5, 6), add(7, 1, 4), set(5), set(8));
        x.latency(MUL, 9);
        aboutIs("one unit does not count", x, 1, 0, 0, 9, 0, 0);
        BlockBench y = chain(60);
        y.latency(ADD, 12);
        due.is("the latest of all", y.about(59, 1), 708);
    }

    private static void slack() {
        due.sentence(TERMS, "SLACK: the greatest WAY of all, less its own WAY and its EARLY.");
        BlockBench x = block(mul(1, 2, 3), add(4, 1, 1), set(5), add(6, 5, 5));
        x.latency(MUL, 12);
        aboutIs("none on the longest way", x, 2, 0, 0, 11, 11);
        aboutIs("alone", block(set(1)), 2, 0);
        BlockBench y = chain(60);
        due.is("the first of a chain", y.about(0, 2), 0);
        due.is("the last of a chain", y.about(59, 2), 0);
    }

    private static void asLongAsThereIsRoom() {
        due.sentence(TERMS, "in a cycle, as long as it has fewer than UNITS");
        for (int units = 1; units <= 8; units++) {
            BlockBench x = apart(2 * units + 1);
            x.units(units);
            for (int i = 0; i <= 2 * units; i++) {
                due.is("units " + units + ", about(" + i + ", 3)", x.about(i, 3), i / units);
            }
        }
    }

    private static void emptyCycles() {
        due.sentence(TERMS, "THE LIST PLAN: cycle after cycle, from 0 on");
        BlockBench x = block(mul(1, 2, 3), add(4, 1, 1), set(5));
        x.latency(MUL, 12);
        aboutIs("from 0 on, cycles 2 .. 11 stay empty", x, 3, 0, 12, 1);
        listedIs("from 0 on", x, 0, 2, 1);
        BlockBench y = block(set(5), mul(1, 2, 3), add(4, 1, 1));
        y.latency(MUL, 12);
        aboutIs("the very next cycle is not passed over", y, 3, 1, 0, 12);
    }

    private static void thisOneMayBeAmongThem() {
        due.sentence(TERMS, "all on which they depend have cycles, this one may be among them, and the DELAYS are kept");
        BlockBench x = block(add(3, 1, 1), set(1), set(4));
        x.units(2);
        aboutIs("delay 0, the same cycle", x, 3, 0, 0, 1);
        listedIs("delay 0, the same cycle", x, 0, 1, 2);
        BlockBench y = block(set(5), add(3, 1, 1), mul(1, 6, 6));
        y.latency(MUL, 9);
        y.units(3);
        aboutIs("one with a longer way is free only then", y, 3, 0, 0, 0);
        listedIs("and is taken before the others", y, 1, 2, 0);
        BlockBench z = block(set(1), add(2, 1, 1));
        z.units(8);
        aboutIs("delay 1, the next cycle", z, 3, 0, 1);
    }

    private static void leastNumberOfLikeWays() {
        due.sentence(TERMS, "the one with the greatest WAY, of these the least number, gets it");
        BlockBench x = block(set(1), mul(2, 9, 9), set(3), mul(4, 9, 9));
        x.latency(MUL, 2);
        listedIs("the greatest, then the least number", x, 1, 3, 0, 2);
        x.latency(MUL, 1);
        listedIs("all alike", x, 0, 1, 2, 3);
        x.latency(SET, 2);
        listedIs("the others are greater by 1", x, 0, 2, 1, 3);
    }

    private static void inOrderNotBeforeTheOneAhead() {
        due.sentence(TERMS, "each one the least cycle that is not before that of the one ahead of it, keeps its DELAYS");
        BlockBench x = block(mul(1, 2, 3), add(4, 1, 1), set(5), set(6));
        x.latency(MUL, 12);
        x.units(2);
        aboutIs("it waits, though it depends on none", x, 4, 0, 12, 12, 13);
        x.units(3);
        aboutIs("as one ahead, if there is room", x, 4, 0, 12, 12, 12);
        aboutIs("delay 0 in one cycle", twoUnits(block(add(3, 1, 1), set(1))), 4, 0, 0);
        aboutIs("delay 1 in the next", twoUnits(block(set(1), set(1))), 4, 0, 1);
    }

    private static BlockBench twoUnits(BlockBench x) {
        x.units(2);
        return x;
    }

    private static void inOrderHasRoom() {
        due.sentence(TERMS, "and has room");
        for (int units = 1; units <= 8; units++) {
            BlockBench x = apart(2 * units + 1);
            x.units(units);
            for (int i = 0; i <= 2 * units; i++) {
                due.is("units " + units + ", about(" + i + ", 4)", x.about(i, 4), i / units);
                due.is("units " + units + ", about(" + i + ", 5)", x.about(i, 5), i / units);
            }
        }
    }

    private static void inOrderOfTheListPlan() {
        due.sentence(TERMS, "or in that of THE LIST PLAN (by cycles, in each as they got it)");
        BlockBench x = block(set(1), mul(2, 9, 9), add(3, 2, 2));
        x.latency(MUL, 4);
        x.units(2);
        listedIs("within a cycle as they got it", x, 1, 0, 2);
        aboutIs("by the list plan", x, 5, 0, 0, 4);
        x.units(1);
        aboutIs("as it stands", x, 4, 0, 1, 5);
        aboutIs("by the list plan, one unit", x, 5, 1, 0, 4);
        due.is("as it stands", x.length(2), 6);
        due.is("by the list plan", x.length(3), 5);
    }

    private static void shortestOfAll() {
        due.sentence(TERMS, "SHORTEST is the least LENGTH of all VALID plans.");
        due.is("no instructions", new BlockBench().length(4), 0);
        due.is("one", chain(1).length(4), 1);
        due.is("seven in a chain", chain(7).length(4), 7);
        due.is("seven apart, one unit", apart(7).length(4), 7);
        BlockBench x = apart(7);
        x.latency(STORE, 12);
        due.is("seven apart, long", x.length(4), 18);
        x.units(6);
        due.is("seven apart, six units", x.length(4), 13);
        x.units(7);
        due.is("seven apart, seven units", x.length(4), 12);
    }

    /** In each, the list plan takes the first of two with like ways, and the second had better been first. */
    private static void shortestBelowTheListPlan() {
        due.sentence(TERMS, "SHORTEST is the least LENGTH of all VALID plans.");
        BlockBench x = block(load(5, 1, 0), set(0), add(5, 0, 5), add(6, 0, 2));
        x.latency(SET, 2);
        x.latency(ADD, 2);
        x.latency(LOAD, 2);
        due.is("list plan, two ADDs", x.length(1), 6);
        due.is("shortest, two ADDs", x.length(4), 5);
        BlockBench y = block(load(2, 5, 0), set(4), add(5, 1, 4), add(1, 2, 0));
        y.latency(SET, 2);
        y.latency(ADD, 2);
        y.latency(LOAD, 2);
        due.is("list plan, delays of 0", y.length(1), 6);
        due.is("shortest, delays of 0", y.length(4), 5);
        BlockBench z = block(set(3), set(4), mul(1, 5, 4), add(4, 3, 2));
        z.latency(SET, 3);
        z.latency(ADD, 2);
        due.is("list plan, two SETs", z.length(1), 7);
        due.is("shortest, two SETs", z.length(4), 6);
        BlockBench w = block(set(3), set(5), load(0, 5, 1), store(4, 1, 3));
        w.latency(SET, 2);
        w.latency(LOAD, 3);
        w.latency(STORE, 3);
        due.is("list plan, memory", w.length(1), 7);
        due.is("shortest, memory", w.length(4), 6);
    }

    /** Each would be shorter if a delay, or the units, did not count. */
    private static void shortestIsValid() {
        due.sentence(TERMS, "SHORTEST is the least LENGTH of all VALID plans.");
        BlockBench x = block(mul(3, 2, 4), add(0, 4, 0), set(0), set(3));
        x.latency(ADD, 4);
        x.latency(MUL, 3);
        due.is("both SETs may not be in one cycle", x.length(4), 6);
        x.units(2);
        due.is("now they may", x.length(4), 5);
        BlockBench y = block(store(1, 0, 3), load(2, 4, 0), add(4, 5, 4));
        y.latency(ADD, 3);
        y.latency(STORE, 4);
        due.is("the ADD may not be before the LOAD", y.length(4), 8);
        y.units(2);
        due.is("but in its cycle", y.length(4), 7);
        BlockBench z = block(load(1, 5, 1), store(2, 0, 1), mul(1, 1, 5), set(5));
        z.latency(SET, 3);
        z.latency(MUL, 2);
        z.latency(LOAD, 4);
        z.units(2);
        due.is("three behind the LOAD, two in a cycle", z.length(4), 8);
        z.units(3);
        due.is("three in a cycle", z.length(4), 7);
    }

    // ---- Runs

    private static void toldAtFirst() {
        due.sentence(TERMS, "Registers and memory are at first as they were told (0 if not).");
        for (int how = 0; how <= 2; how++) {
            BlockBench x = block(add(1, 1, 2), load(3, 4, 63), store(4, 0, 2));
            placeAll(x, 0, 1, 2);
            x.run(how);
            due.is("a register not told", x.value(0, 1), 0);
            due.is("a word not told", x.value(0, 3), 0);
            x.given(0, 2, 5);
            x.given(1, 63, 6);
            x.run(how);
            x.run(how);
            due.is("told, not what the run before left", x.value(0, 1), 5);
            due.is("a word told", x.value(0, 3), 6);
            due.is("a word written", x.value(1, 0), 5);
            x.given(0, 2, 0);
            x.run(how);
            due.is("told anew, the word is not left", x.value(1, 0), 0);
        }
    }

    /** Latencies and units do not count for what is read, and the last of 60 is run like the first. */
    private static void oneAfterTheOther() {
        due.sentence(TERMS, "As it stands: one instruction after the other.");
        BlockBench x = new BlockBench();
        x.given(0, 2, 1);
        x.latency(ADD, 12);
        x.units(8);
        for (int i = 0; i < 59; i++) {
            x.add(ADD, 1, 1, 2, 0);
        }
        x.add(STORE, 0, 0, 1, 63);
        due.is("run(0)", x.run(0), 709);
        due.is("59 ADDs", x.value(0, 1), 59);
        due.is("and a STORE", x.value(1, 63), 59);
    }

    private static void firstItComesThenTheyRead() {
        due.sentence(TERMS, "first what was begun so many cycles before as its LATENCY tells comes into its register, or memory; then all");
        BlockBench x = block(mul(3, 1, 1), set(1), add(4, 3, 1), store(5, 0, 4), load(6, 5, 0), add(4, 4, 6));
        x.given(0, 1, 7);
        x.latency(MUL, 12);
        x.latency(STORE, 12);
        x.units(8);
        placeAll(x, 0, 0, 12, 13, 25, 26);
        due.is("each one at the very cycle", x.run(2), 27);
        due.is("MUL read before the SET came", x.value(0, 3), 49);
        due.is("the SET came", x.value(0, 1), 0);
        due.is("the STORE came in that cycle", x.value(0, 6), 49);
        due.is("the last ADD", x.value(0, 4), 98);
        placeAll(x, 988, 988, 1000);
        due.is("no more VALID", x.run(2), NO);
        BlockBench y = block(mul(3, 1, 1), set(1));
        y.given(0, 1, 7);
        y.latency(MUL, 12);
        y.units(2);
        placeAll(y, 1000, 1000);
        due.is("the last cycle", y.run(2), 1012);
        due.is("read in the last cycle", y.value(0, 3), 49);
        due.is("come behind the last cycle", y.value(0, 1), 0);
    }

    private static void endsWhenAllHasCome() {
        due.sentence(TERMS, "It ends when all has come.");
        BlockBench x = block(mul(3, 1, 1), set(4), set(5));
        x.given(0, 1, 3);
        x.given(0, 4, 8);
        x.latency(MUL, 12);
        due.is("list plan", x.run(1), 12);
        due.is("the MUL came last", x.value(0, 3), 9);
        due.is("a SET came", x.value(0, 4), 0);
        placeAll(x, 0, 11, 12);
        due.is("a SET comes last", x.run(2), 13);
        due.is("none", new BlockBench().run(1), 0);
        BlockBench y = new BlockBench();
        y.given(0, 2, 1);
        y.latency(ADD, 12);
        for (int i = 0; i < 60; i++) {
            y.add(ADD, 1, 1, 2, 0);
            y.place(i, 16 * i);
        }
        due.is("60, each one come before the next begins", y.run(2), 956);
        due.is("all 60 have come", y.value(0, 1), 60);
    }
}
