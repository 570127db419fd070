/** For each promise: ordinary inputs, the edges that the document names, and wrong inputs. */
public final class PromisesTest {
    private static final int BAD = -1;
    private static final int FULL = -2;
    private static final int NO = -3;
    private static final int SET = 0;
    private static final int ADD = 1;
    private static final int SUB = 2;
    private static final int MUL = 3;
    private static final int LESS = 4;
    private static final int LOAD = 5;
    private static final int STORE = 6;
    private static final int MIN = Integer.MIN_VALUE;
    private static final int MAX = Integer.MAX_VALUE;

    private static final Due due = new Due();

    public static void main(String[] args) {
        constants();
        newObject();
        add();
        addWrong();
        cut();
        latency();
        units();
        delayByRegisters();
        delayBetweenWrites();
        delayByMemory();
        delayWrong();
        ways();
        listPlan();
        listPlanWithinACycle();
        inOrder();
        aboutWrong();
        listed();
        lengths();
        shortest();
        shortestBeatsTheList();
        place();
        check();
        checkOrder();
        wrong();
        given();
        runAsItStands();
        runByPlans();
        runWrong();
        value();
        due.end("PromisesTest");
    }

    private static void constants() {
        due.is("BAD", BlockBench.BAD, BAD);
        due.is("FULL", BlockBench.FULL, FULL);
        due.is("NO", BlockBench.NO, NO);
    }

    private static void newObject() {
        BlockBench x = new BlockBench();
        due.is("1: length(6)", x.length(6), 0);
        for (int k = 0; k < 16; k++) {
            due.is("1: value of a register", x.value(0, k), 0);
            due.is("1: told register", x.given(0, k, k + 1), 0);
        }
        for (int k = 0; k < 64; k++) {
            due.is("1: value of a word", x.value(1, k), 0);
            due.is("1: told word", x.given(1, k, k + 1), 0);
        }
        due.is("1: check()", x.check(), 0);
        due.is("1: wrong(0)", x.wrong(0), NO);
        for (int kind = SET; kind <= STORE; kind++) {
            due.is("1: latency", x.latency(kind, 1), 1);
        }
        due.is("1: units", x.units(1), 1);
        due.is("1: another object is on its own", new BlockBench().given(0, 3, 0), 0);
    }

    private static void add() {
        BlockBench x = new BlockBench();
        due.is("2: SET looks at d alone", x.add(SET, 15, MIN, MAX, MIN), 0);
        due.is("2: LOAD does not look at b", x.add(LOAD, 0, 15, -1, MAX), 1);
        due.is("2: STORE does not look at d", x.add(STORE, 16, 0, 15, -1), 2);
        for (int kind = ADD; kind <= LESS; kind++) {
            due.is("2: numbers go on", x.add(kind, 15, 15, 15, 0), 2 + kind);
        }
        for (int i = 7; i < 60; i++) {
            due.is("2: up to 60", x.add(SET, 0, 0, 0, i), i);
        }
        due.is("2: FULL", x.add(SET, 0, 0, 0, 0), FULL);
        due.is("2: BAD before FULL", x.add(7, 0, 0, 0, 0), BAD);
        due.is("2: still 60", x.length(6), 60);
        due.is("2: one less", x.cut(1), 59);
        due.is("2: one more again", x.add(SET, 0, 0, 0, 0), 59);
    }

    private static void addWrong() {
        BlockBench x = new BlockBench();
        int[] noRegisters = {-1, 16, MIN, MAX};
        for (int r : noRegisters) {
            for (int kind = SET; kind <= STORE; kind++) {
                if (kind != STORE) {
                    due.is("2: d of " + kind, x.add(kind, r, 0, 0, 0), BAD);
                }
                if (kind != SET) {
                    due.is("2: a of " + kind, x.add(kind, 0, r, 0, 0), BAD);
                }
                if (kind != SET && kind != LOAD) {
                    due.is("2: b of " + kind, x.add(kind, 0, 0, r, 0), BAD);
                }
            }
        }
        due.is("2: kind 7", x.add(7, 0, 0, 0, 0), BAD);
        due.is("2: kind -1", x.add(-1, 0, 0, 0, 0), BAD);
        due.is("2: least kind", x.add(MIN, 0, 0, 0, 0), BAD);
        due.is("2: greatest kind", x.add(MAX, 0, 0, 0, 0), BAD);
        due.is("2: nothing added", x.length(6), 0);
    }

    private static void cut() {
        BlockBench x = new BlockBench();
        due.is("3: none of none", x.cut(0), 0);
        due.is("3: one of none", x.cut(1), BAD);
        x.add(SET, 1, 0, 0, 5);
        x.add(SET, 2, 0, 0, 6);
        x.add(ADD, 3, 1, 2, 0);
        due.is("3: too many", x.cut(4), BAD);
        due.is("3: less than none", x.cut(-1), BAD);
        due.is("3: least", x.cut(MIN), BAD);
        due.is("3: greatest", x.cut(MAX), BAD);
        due.is("3: BAD cuts nothing", x.length(6), 3);
        due.is("3: none", x.cut(0), 3);
        due.is("3: two", x.cut(2), 1);
        due.is("3: those behind are gone", x.about(1, 0), BAD);
        x.run(0);
        due.is("3: the first one stays", x.value(0, 1), 5);
        due.is("3: the second one went", x.value(0, 2), 0);
        due.is("3: the next number", x.add(SET, 2, 0, 0, 7), 1);
        due.is("3: all", x.cut(2), 0);
        due.is("3: no length", x.length(2), 0);

        BlockBench y = fork();
        due.is("3: way before", y.about(1, 0), 8);
        y.cut(2);
        due.is("3: way without those that depended", y.about(1, 0), 4);
        due.is("3: dependences without them", y.length(7), 0);
        due.is("3: list plan without them", y.length(1), 5);
        due.is("3: shortest without them", y.length(4), 5);
    }

    private static void latency() {
        BlockBench x = new BlockBench();
        for (int kind = SET; kind <= STORE; kind++) {
            due.is("4: first", x.latency(kind, 12 - kind), 1);
            due.is("4: none is too few", x.latency(kind, 0), BAD);
            due.is("4: 13 is too many", x.latency(kind, 13), BAD);
            due.is("4: least", x.latency(kind, MIN), BAD);
            due.is("4: greatest", x.latency(kind, MAX), BAD);
        }
        for (int kind = SET; kind <= STORE; kind++) {
            due.is("4: kept", x.latency(kind, 1), 12 - kind);
        }
        due.is("4: kind -1", x.latency(-1, 1), BAD);
        due.is("4: kind 7", x.latency(7, 1), BAD);
        due.is("4: least kind", x.latency(MIN, 1), BAD);
        x.add(SET, 1, 0, 0, 0);
        due.is("4: length before", x.length(1), 1);
        x.latency(SET, 9);
        due.is("4: length behind", x.length(1), 9);
        due.is("4: way behind", x.about(0, 0), 9);
    }

    private static void units() {
        BlockBench x = new BlockBench();
        due.is("5: first", x.units(8), 1);
        due.is("5: none", x.units(0), BAD);
        due.is("5: nine", x.units(9), BAD);
        due.is("5: least", x.units(MIN), BAD);
        due.is("5: greatest", x.units(MAX), BAD);
        due.is("5: back", x.units(1), 8);
        for (int i = 0; i < 7; i++) {
            x.add(SET, i, 0, 0, 0);
        }
        for (int n = 1; n <= 8; n++) {
            x.units(n);
            int cycles = (7 + n - 1) / n;
            due.is("5: list plan with " + n, x.length(1), cycles);
            due.is("5: in order with " + n, x.length(2), cycles);
            due.is("5: shortest with " + n, x.length(4), cycles);
        }
    }

    private static void delayByRegisters() {
        BlockBench x = new BlockBench();
        x.latency(MUL, 5);
        x.add(MUL, 1, 2, 3, 0);
        x.add(ADD, 4, 1, 1, 0);
        x.add(SET, 2, 0, 0, 0);
        x.add(SUB, 1, 1, 2, 0);
        x.add(LESS, 5, 1, 3, 0);
        due.is("6: reads what is written", x.delay(0, 1), 5);
        due.is("6: writes what is read", x.delay(0, 2), 0);
        due.is("6: reads and writes it, one between reads it", x.delay(0, 3), 5);
        due.is("6: one between writes it", x.delay(0, 4), NO);
        due.is("6: nothing shared", x.delay(1, 2), NO);
        due.is("6: writes what is read, by the other", x.delay(1, 3), 0);
        due.is("6: latency 1", x.delay(2, 3), 1);
        due.is("6: both read it alone", x.delay(1, 4), NO);
        due.is("6: the last pair", x.delay(3, 4), 1);
        due.is("9: dependences", x.length(7), 6);

        BlockBench y = new BlockBench();
        y.add(ADD, 2, 1, 1, 0);
        y.add(SET, 1, 0, 0, 0);
        y.add(SET, 1, 0, 0, 0);
        due.is("6: one between writes what is read", y.delay(0, 2), NO);
        y.add(STORE, 0, 3, 1, 0);
        due.is("6: STORE reads b", y.delay(2, 3), 1);
        y.add(SET, 3, 0, 0, 0);
        due.is("6: STORE reads a", y.delay(3, 4), 0);
        y.add(LOAD, 5, 3, 5, 0);
        due.is("6: LOAD reads a", y.delay(4, 5), 1);
        y.add(SET, 5, 3, 3, 0);
        due.is("6: SET reads none", y.delay(4, 6), NO);
        y.add(STORE, 5, 1, 1, 0);
        due.is("6: STORE writes no register", y.delay(6, 7), NO);
    }

    private static void delayBetweenWrites() {
        BlockBench x = new BlockBench();
        x.latency(MUL, 7);
        x.latency(ADD, 7);
        x.latency(SUB, 6);
        x.latency(SET, 3);
        x.add(MUL, 1, 2, 3, 0);
        x.add(SET, 1, 0, 0, 0);
        due.is("6: 7 less 3 and 1", x.delay(0, 1), 5);
        x.cut(1);
        x.add(ADD, 1, 2, 3, 0);
        due.is("6: like latencies", x.delay(0, 1), 1);
        x.cut(1);
        x.add(SUB, 1, 2, 3, 0);
        due.is("6: 7 less 6 and 1", x.delay(0, 1), 2);
        x.add(MUL, 1, 2, 3, 0);
        due.is("6: less than 1", x.delay(1, 2), 1);
        due.is("6: one between", x.delay(0, 2), NO);
        x.latency(MUL, 12);
        x.latency(SUB, 1);
        due.is("6: 12 less 1 and 1", x.delay(0, 1), 12);
    }

    private static void delayByMemory() {
        BlockBench x = new BlockBench();
        x.latency(STORE, 4);
        x.latency(LOAD, 6);
        x.add(STORE, 0, 1, 2, 3);
        x.add(LOAD, 5, 1, 0, 67);
        due.is("6: one place modulo 64", x.delay(0, 1), 4);
        x.add(LOAD, 6, 1, 0, 4);
        due.is("6: apart", x.delay(0, 2), NO);
        due.is("6: two LOADs", x.delay(1, 2), NO);
        x.add(STORE, 0, 1, 2, -60);
        due.is("6: LOAD, then STORE at its place", x.delay(2, 3), 0);
        due.is("6: LOAD, then STORE apart", x.delay(1, 3), NO);
        due.is("6: two STOREs apart", x.delay(0, 3), NO);
        x.add(STORE, 0, 1, 2, 68);
        due.is("6: two STOREs at one place", x.delay(3, 4), 1);
        x.add(LOAD, 7, 1, 0, MIN);
        x.add(STORE, 0, 1, 2, 0);
        due.is("6: the least number is 0 modulo 64", x.delay(5, 6), 0);
        x.add(LOAD, 8, 1, 0, -1);
        x.add(STORE, 0, 1, 2, MAX);
        due.is("6: -1 and the greatest are 63", x.delay(7, 8), 0);

        BlockBench y = new BlockBench();
        y.add(STORE, 0, 1, 2, 0);
        y.add(LOAD, 3, 4, 0, 1);
        due.is("6: other registers may be at one place", y.delay(0, 1), 1);
        y.add(SET, 1, 0, 0, 0);
        y.add(LOAD, 5, 1, 0, 1);
        due.is("6: a is written between", y.delay(0, 3), 1);
        y.add(LOAD, 6, 6, 0, 0);
        y.add(STORE, 0, 6, 2, 1);
        due.is("6: a is written by i", y.delay(4, 5), 1);
        y.add(STORE, 0, 6, 2, 2);
        due.is("6: a is written before i", y.delay(5, 6), NO);
        y.add(STORE, 0, 9, 2, 0);
        y.add(LOAD, 9, 9, 0, 1);
        due.is("6: a is written by j, not before it", y.delay(7, 8), 0);
        y.cut(9);
        y.add(LOAD, 9, 1, 0, 0);
        y.add(STORE, 0, 1, 2, 1);
        y.add(STORE, 0, 1, 3, 0);
        due.is("6: one between does not hide a place", y.delay(0, 2), 0);
        y.add(STORE, 0, 1, 3, 0);
        due.is("6: nor does one at that place", y.delay(0, 3), 0);
    }

    private static void delayWrong() {
        BlockBench x = new BlockBench();
        due.is("6: none there", x.delay(0, 0), BAD);
        x.add(SET, 1, 0, 0, 0);
        x.add(SET, 1, 0, 0, 0);
        due.is("6: on itself", x.delay(1, 1), NO);
        due.is("6: on one behind it", x.delay(1, 0), NO);
        due.is("6: i too great", x.delay(2, 1), BAD);
        due.is("6: j too great", x.delay(0, 2), BAD);
        due.is("6: i too small", x.delay(-1, 1), BAD);
        due.is("6: j too small", x.delay(0, -1), BAD);
        due.is("6: least", x.delay(MIN, MIN), BAD);
        due.is("6: greatest", x.delay(MAX, MAX), BAD);
    }

    /** LOAD, LOAD, ADD of both, and a SET that nothing needs. */
    private static BlockBench fork() {
        BlockBench x = new BlockBench();
        x.latency(LOAD, 4);
        x.latency(ADD, 2);
        x.add(SET, 9, 0, 0, 1);
        x.add(LOAD, 1, 0, 0, 0);
        x.add(LOAD, 2, 0, 0, 1);
        x.add(ADD, 3, 1, 2, 0);
        x.add(ADD, 4, 3, 9, 0);
        return x;
    }

    private static void aboutAll(String what, BlockBench x, int which, int... wants) {
        for (int i = 0; i < wants.length; i++) {
            due.is(what + " of " + i, x.about(i, which), wants[i]);
        }
    }

    private static void ways() {
        BlockBench x = fork();
        aboutAll("7: WAY", x, 0, 3, 8, 8, 4, 2);
        aboutAll("7: EARLY", x, 1, 0, 0, 0, 4, 6);
        aboutAll("7: SLACK", x, 2, 5, 0, 0, 0, 0);
        due.is("9: greatest WAY", x.length(0), 8);
        x.add(SET, 8, 0, 0, 0);
        due.is("7: EARLY of one that depends on none", x.about(5, 1), 0);
        due.is("7: SLACK of one that depends on none", x.about(5, 2), 7);
        due.is("7: in order, behind the one ahead", x.about(5, 4), 9);

        BlockBench y = new BlockBench();
        y.latency(MUL, 12);
        y.add(MUL, 1, 2, 3, 0);
        y.add(SET, 2, 0, 0, 0);
        due.is("7: the LATENCY is greater than what depends", y.about(0, 0), 12);
        due.is("7: EARLY by a delay of 0", y.about(1, 1), 0);
        due.is("7: SLACK without a way behind", y.about(1, 2), 11);
    }

    private static void listPlan() {
        BlockBench x = fork();
        aboutAll("7: list plan", x, 3, 2, 0, 1, 5, 7);
        listedAll(x, 1, 2, 0, 3, 4);
        due.is("9: list plan", x.length(1), 9);
        x.units(2);
        aboutAll("7: list plan, two units", x, 3, 1, 0, 0, 4, 6);
        listedAll(x, 1, 2, 0, 3, 4);
        x.units(3);
        aboutAll("7: list plan, three units", x, 3, 0, 0, 0, 4, 6);
    }

    private static void listedAll(BlockBench x, int... wants) {
        for (int k = 0; k < wants.length; k++) {
            due.is("8: listed(" + k + ")", x.listed(k), wants[k]);
        }
        due.is("8: listed behind the last", x.listed(wants.length), BAD);
    }

    private static void listPlanWithinACycle() {
        BlockBench x = new BlockBench();
        x.units(3);
        x.latency(MUL, 3);
        x.add(ADD, 4, 1, 1, 0);
        x.add(SET, 1, 0, 0, 7);
        x.add(MUL, 5, 1, 1, 0);
        x.add(SET, 6, 0, 0, 0);
        due.is("6: a delay of 0", x.delay(0, 1), 0);
        aboutAll("7: one that only now may be in the cycle", x, 3, 0, 0, 1, 0);
        listedAll(x, 0, 1, 3, 2);
        x.units(2);
        listedAll(x, 0, 1, 2, 3);
        aboutAll("7: no room for the last one", x, 3, 0, 0, 1, 1);
    }

    private static void inOrder() {
        BlockBench x = new BlockBench();
        x.latency(LOAD, 3);
        x.units(2);
        x.add(LOAD, 1, 0, 0, 0);
        x.add(ADD, 2, 1, 1, 0);
        x.add(LOAD, 3, 0, 0, 1);
        x.add(ADD, 4, 3, 3, 0);
        aboutAll("7: in order as it stands", x, 4, 0, 3, 3, 6);
        aboutAll("7: in order by the list", x, 5, 0, 3, 0, 3);
        due.is("9: in order as it stands", x.length(2), 7);
        due.is("9: in order by the list", x.length(3), 4);
        x.units(1);
        aboutAll("7: in order, one unit", x, 4, 0, 3, 4, 7);
        aboutAll("7: in order by the list, one unit", x, 5, 0, 3, 1, 4);
        due.is("9: in order, one unit", x.length(2), 8);
        due.is("9: in order by the list, one unit", x.length(3), 5);
    }

    private static void aboutWrong() {
        BlockBench x = new BlockBench();
        due.is("7: none there", x.about(0, 0), BAD);
        x.add(SET, 1, 0, 0, 0);
        due.is("7: what 7", x.about(0, 7), BAD);
        due.is("7: what -1", x.about(0, -1), BAD);
        due.is("7: least what", x.about(0, MIN), BAD);
        due.is("7: greatest what", x.about(0, MAX), BAD);
        for (int what = 0; what <= 6; what++) {
            due.is("7: i behind the last", x.about(1, what), BAD);
            due.is("7: i before the first", x.about(-1, what), BAD);
        }
        due.is("7: own plan without", x.about(0, 6), NO);
        x.place(0, 31);
        due.is("7: own plan", x.about(0, 6), 31);
    }

    private static void listed() {
        BlockBench x = new BlockBench();
        due.is("8: none there", x.listed(0), BAD);
        x.latency(MUL, 4);
        x.add(SET, 1, 0, 0, 0);
        x.add(MUL, 2, 3, 3, 0);
        x.add(SET, 4, 0, 0, 0);
        due.is("8: the longest way first", x.listed(0), 1);
        due.is("8: then the least number", x.listed(1), 0);
        due.is("8: last", x.listed(2), 2);
        due.is("8: behind the last", x.listed(3), BAD);
        due.is("8: before the first", x.listed(-1), BAD);
        due.is("8: least", x.listed(MIN), BAD);
        due.is("8: greatest", x.listed(MAX), BAD);
    }

    private static void lengths() {
        BlockBench x = new BlockBench();
        for (int what = 0; what <= 7; what++) {
            due.is("9: empty, what " + what, x.length(what), 0);
        }
        due.is("9: what 8", x.length(8), BAD);
        due.is("9: what -1", x.length(-1), BAD);
        due.is("9: least what", x.length(MIN), BAD);
        due.is("9: greatest what", x.length(MAX), BAD);
        x.latency(SET, 12);
        x.add(SET, 1, 0, 0, 0);
        due.is("9: own plan without", x.length(5), NO);
        x.place(0, 1000);
        due.is("9: own plan", x.length(5), 1012);
        x.add(SET, 2, 0, 0, 0);
        due.is("9: own plan, one without", x.length(5), NO);
        x.place(1, 1000);
        due.is("9: own plan, too many", x.length(5), NO);
        x.place(1, 3);
        due.is("9: own plan, the greatest sum", x.length(5), 1012);
    }

    private static void shortest() {
        BlockBench x = new BlockBench();
        for (int i = 0; i < 7; i++) {
            x.add(SET, i, 0, 0, 0);
        }
        due.is("9: seven, shortest", x.length(4), 7);
        x.units(4);
        due.is("9: more units, shortest", x.length(4), 2);
        x.latency(SET, 5);
        due.is("9: longer, shortest", x.length(4), 6);
        x.add(SET, 7, 0, 0, 0);
        due.is("9: eight, shortest", x.length(4), NO);
        x.cut(1);
        due.is("9: seven again, shortest", x.length(4), 6);
    }

    /** The list plan takes the LOAD before the SET, for both have one way; both ADDs wait for the SET. */
    private static void shortestBeatsTheList() {
        BlockBench x = new BlockBench();
        x.latency(SET, 2);
        x.latency(ADD, 2);
        x.latency(LOAD, 2);
        x.add(LOAD, 5, 1, 0, 0);
        x.add(SET, 0, 0, 0, 2);
        x.add(ADD, 5, 0, 5, 0);
        x.add(ADD, 6, 0, 2, 0);
        due.is("9: list plan, led astray", x.length(1), 6);
        due.is("9: shortest, the SET first", x.length(4), 5);
        x.units(2);
        due.is("9: shortest with two units", x.length(4), 4);
        x.units(1);
        x.latency(LOAD, 3);
        due.is("9: shortest with another latency", x.length(4), 6);
    }

    private static void place() {
        BlockBench x = new BlockBench();
        due.is("10: none there", x.place(0, 0), BAD);
        x.add(SET, 1, 0, 0, 0);
        x.add(SET, 2, 0, 0, 0);
        due.is("10: without", x.place(0, 0), NO);
        due.is("10: the one before", x.place(0, 1000), 0);
        due.is("10: cycle -1", x.place(0, -1), BAD);
        due.is("10: cycle 1001", x.place(0, 1001), BAD);
        due.is("10: least cycle", x.place(0, MIN), BAD);
        due.is("10: greatest cycle", x.place(0, MAX), BAD);
        due.is("10: BAD changes nothing", x.place(0, 5), 1000);
        due.is("10: i behind the last", x.place(2, 0), BAD);
        due.is("10: i before the first", x.place(-1, 0), BAD);
        due.is("10: least i", x.place(MIN, 0), BAD);
        due.is("10: the other", x.place(1, 7), NO);
        x.cut(1);
        x.add(SET, 2, 0, 0, 0);
        due.is("10: it went with the instruction", x.about(1, 6), NO);
        due.is("10: the other one stays", x.about(0, 6), 5);
        due.is("10: it went, place", x.place(1, 8), NO);
    }

    private static void checkIs(String what, BlockBench x, int verdict, int first, int second) {
        due.is("11: " + what, x.check(), verdict);
        due.is("12: " + what + ", part 0", x.wrong(0), first);
        due.is("12: " + what + ", part 1", x.wrong(1), second);
    }

    private static void check() {
        BlockBench x = fork();
        checkIs("none has a cycle", x, 1, 0, NO);
        x.place(0, 9);
        x.place(2, 9);
        checkIs("one has no cycle", x, 1, 1, NO);
        x.place(1, 9);
        x.place(3, 13);
        checkIs("the last one has no cycle", x, 1, 4, NO);
        x.place(4, 0);
        checkIs("a delay is not kept, the first i", x, 2, 0, 4);
        x.place(4, 14);
        checkIs("a delay is not kept by one cycle", x, 2, 3, 4);
        x.place(4, 15);
        checkIs("too many", x, 3, 9, NO);
        x.units(3);
        checkIs("enough units", x, 0, NO, NO);
        x.units(2);
        checkIs("one unit less", x, 3, 9, NO);
        x.place(0, 8);
        checkIs("another cycle", x, 0, NO, NO);
        due.is("9: own plan, all kept", x.length(5), 17);
        x.latency(LOAD, 5);
        checkIs("another latency", x, 2, 1, 3);
        x.add(SET, 5, 0, 0, 0);
        checkIs("one more", x, 1, 5, NO);
        x.cut(6);
        checkIs("none there", x, 0, NO, NO);
    }

    private static void checkOrder() {
        BlockBench x = new BlockBench();
        x.add(SET, 1, 0, 0, 0);
        x.add(SET, 2, 0, 0, 0);
        x.add(ADD, 3, 2, 2, 0);
        x.add(ADD, 4, 1, 3, 0);
        x.place(0, 5);
        x.place(1, 6);
        x.place(2, 6);
        x.place(3, 5);
        checkIs("the first by j, and before too many", x, 2, 1, 2);
        x.place(2, 7);
        checkIs("the first by i", x, 2, 0, 3);
        x.place(3, 7);
        checkIs("the other i", x, 2, 2, 3);

        BlockBench y = new BlockBench();
        for (int i = 0; i < 6; i++) {
            y.add(SET, i, 0, 0, 0);
        }
        int[] cycles = {1000, 1000, 20, 3, 20, 20};
        for (int i = 0; i < 6; i++) {
            y.place(i, cycles[i]);
        }
        checkIs("the first cycle, not the first instruction", y, 3, 20, NO);
        y.units(2);
        checkIs("only one cycle has more than two", y, 3, 20, NO);
        y.place(5, 0);
        checkIs("two in a cycle with two units", y, 0, NO, NO);
        y.units(1);
        y.place(2, 0);
        checkIs("cycle 0", y, 3, 0, NO);
    }

    private static void wrong() {
        BlockBench x = new BlockBench();
        due.is("12: before any check, part 0", x.wrong(0), NO);
        due.is("12: before any check, part 1", x.wrong(1), NO);
        due.is("12: part 2", x.wrong(2), BAD);
        due.is("12: part -1", x.wrong(-1), BAD);
        due.is("12: least part", x.wrong(MIN), BAD);
        due.is("12: greatest part", x.wrong(MAX), BAD);
        x.add(SET, 1, 0, 0, 0);
        x.add(SET, 1, 0, 0, 0);
        x.place(0, 1);
        x.place(1, 1);
        due.is("12: only check() tells, length", x.length(5), NO);
        due.is("12: only check() tells, run", x.run(2), NO);
        due.is("12: nothing told yet", x.wrong(0), NO);
        x.check();
        x.place(1, 2);
        x.length(5);
        x.run(2);
        x.cut(2);
        due.is("12: what was told stays, part 0", x.wrong(0), 0);
        due.is("12: what was told stays, part 1", x.wrong(1), 1);
        x.check();
        due.is("12: nothing wrong, part 0", x.wrong(0), NO);
        due.is("12: nothing wrong, part 1", x.wrong(1), NO);
    }

    private static void given() {
        BlockBench x = new BlockBench();
        due.is("13: register 0", x.given(0, 0, MIN), 0);
        due.is("13: register 0 again", x.given(0, 0, 4), MIN);
        due.is("13: register 15", x.given(0, 15, MAX), 0);
        due.is("13: register 15 again", x.given(0, 15, 1), MAX);
        due.is("13: word 15", x.given(1, 15, 2), 0);
        due.is("13: word 63", x.given(1, 63, 3), 0);
        due.is("13: word 63 again", x.given(1, 63, 5), 3);
        int[][] none = {{0, 16}, {0, -1}, {1, 64}, {1, -1}, {2, 0}, {-1, 0}, {MIN, MIN}, {MAX, MAX}, {0, MIN}, {1, MAX}};
        for (int[] place : none) {
            due.is("13: none such", x.given(place[0], place[1], 9), 0);
            due.is("13: none such again", x.given(place[0], place[1], 9), 0);
        }
        x.run(0);
        due.is("13: told register", x.value(0, 0), 4);
        due.is("13: told word", x.value(1, 63), 5);
        x.add(SET, 0, 0, 0, 77);
        x.run(0);
        due.is("13: a run does not change what is told", x.given(0, 0, 6), 4);
        due.is("13: what is told does not change what was run", x.value(0, 0), 77);
    }

    private static int outcome(int kind, int first, int second) {
        BlockBench x = new BlockBench();
        x.given(0, 1, first);
        x.given(0, 2, second);
        x.add(kind, 3, 1, 2, 0);
        x.run(0);
        int standing = x.value(0, 3);
        x.run(1);
        due.is("14: by the list plan as it stands", x.value(0, 3), standing);
        return standing;
    }

    private static void runAsItStands() {
        due.is("14: ADD", outcome(ADD, 7, -9), -2);
        due.is("14: ADD wraps", outcome(ADD, MAX, 1), MIN);
        due.is("14: SUB", outcome(SUB, 7, -9), 16);
        due.is("14: SUB wraps", outcome(SUB, MIN, 1), MAX);
        due.is("14: MUL", outcome(MUL, 7, -9), -63);
        due.is("14: MUL wraps", outcome(MUL, 65536, 65536), 0);
        due.is("14: LESS", outcome(LESS, -9, 7), 1);
        due.is("14: LESS, not", outcome(LESS, 7, -9), 0);
        due.is("14: LESS, alike", outcome(LESS, 7, 7), 0);
        due.is("14: LESS, the edges", outcome(LESS, MIN, MAX), 1);

        BlockBench x = new BlockBench();
        x.given(0, 1, -3);
        x.given(0, 2, MAX);
        x.given(1, 61, 100);
        x.given(1, 2, 200);
        x.add(LOAD, 3, 1, 0, 0);
        x.add(LOAD, 4, 1, 0, 5);
        x.add(STORE, 0, 2, 3, 1);
        x.add(LOAD, 5, 2, 0, 1);
        x.add(SET, 1, 0, 0, MIN);
        x.add(STORE, 0, 1, 4, -1);
        due.is("14: how many cycles", x.run(0), 6);
        due.is("14: LOAD below 0", x.value(0, 3), 100);
        due.is("14: LOAD", x.value(0, 4), 200);
        due.is("14: LOAD of what was stored, wrapping", x.value(0, 5), 100);
        due.is("14: STORE, wrapping", x.value(1, 0), 100);
        due.is("14: STORE below 0", x.value(1, 63), 200);
        due.is("14: SET", x.value(0, 1), MIN);
        due.is("14: again the same", x.run(0), 6);
        due.is("14: what is told is there at first", x.value(0, 3), 100);
    }

    private static void runByPlans() {
        BlockBench x = new BlockBench();
        x.latency(MUL, 6);
        x.latency(STORE, 3);
        x.units(4);
        x.given(0, 1, 5);
        x.given(0, 2, 8);
        x.add(MUL, 3, 1, 1, 0);
        x.add(SET, 1, 0, 0, 2);
        x.add(STORE, 0, 2, 3, 0);
        x.add(LOAD, 4, 2, 0, 0);
        x.add(SET, 3, 0, 0, 1);
        due.is("14: as it stands", x.run(0), x.length(2));
        due.is("14: by the list plan", x.run(1), x.length(1));
        due.is("14: the MUL read before the SET came", x.value(1, 8), 25);
        due.is("14: the LOAD waited for the STORE", x.value(0, 4), 25);
        due.is("14: the later SET stays", x.value(0, 3), 1);
        due.is("14: own plan without", x.run(2), NO);
        int[] cycles = {10, 10, 16, 19, 16};
        for (int i = 0; i < cycles.length; i++) {
            x.place(i, cycles[i]);
        }
        x.given(0, 1, 6);
        due.is("14: NO runs nothing", x.value(1, 8), 25);
        due.is("14: own plan", x.run(2), 20);
        due.is("14: own plan, word", x.value(1, 8), 36);
        due.is("14: own plan, register", x.value(0, 4), 36);
        due.is("14: own plan, the later SET", x.value(0, 3), 1);
        due.is("14: own plan, another", x.value(0, 1), 2);
    }

    private static void runWrong() {
        BlockBench x = new BlockBench();
        x.given(0, 5, 9);
        due.is("14: how 3", x.run(3), BAD);
        due.is("14: how -1", x.run(-1), BAD);
        due.is("14: least how", x.run(MIN), BAD);
        due.is("14: greatest how", x.run(MAX), BAD);
        due.is("14: BAD runs nothing", x.value(0, 5), 0);
        due.is("14: empty by the own plan", x.run(2), 0);
        due.is("14: empty, what was told", x.value(0, 5), 9);
        x.given(0, 5, 8);
        due.is("14: empty as it stands", x.run(0), 0);
        due.is("14: empty, told anew", x.value(0, 5), 8);
        x.given(0, 5, 7);
        due.is("14: empty by the list plan", x.run(1), 0);
        due.is("14: empty, told once more", x.value(0, 5), 7);
    }

    private static void value() {
        BlockBench x = new BlockBench();
        for (int k = 0; k < 16; k++) {
            x.given(0, k, 100 + k);
        }
        for (int k = 0; k < 64; k++) {
            x.given(1, k, 200 + k);
        }
        due.is("15: before any run", x.value(0, 3), 0);
        due.is("15: before any run, word", x.value(1, 3), 0);
        x.run(0);
        for (int k = 0; k < 16; k++) {
            due.is("15: register", x.value(0, k), 100 + k);
        }
        for (int k = 0; k < 64; k++) {
            due.is("15: word", x.value(1, k), 200 + k);
        }
        int[][] none = {{0, 16}, {0, -1}, {1, 64}, {1, -1}, {2, 0}, {-1, 0}, {MIN, MIN}, {MAX, MAX}, {0, MIN}, {1, MAX}};
        for (int[] place : none) {
            due.is("15: none such", x.value(place[0], place[1]), 0);
        }
        x.add(SET, 1, 0, 0, 1);
        due.is("15: an instruction more runs nothing", x.value(0, 1), 101);
        x.run(0);
        x.cut(1);
        due.is("15: an instruction less runs nothing", x.value(0, 1), 1);
    }
}
