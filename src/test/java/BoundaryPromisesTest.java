/** Each sentence of the promises 1 to 15 that names a boundary case has a test of its own here. */
public final class BoundaryPromisesTest extends Boundary {
    public static void main(String[] args) {
        newHasNoInstructions();
        newIsToldZero();
        addTellsTheNumber();
        addBadKind();
        addBadRegister();
        addAnyNumber();
        addFull();
        addBadAndFull();
        cutTheLast();
        cutToNone();
        cutBeforeTheShortest();
        cutBad();
        latencyTheOneBefore();
        latencyBad();
        unitsTheOnesBefore();
        unitsBad();
        delayNo();
        delayBad();
        aboutEach();
        aboutOwnWithout();
        aboutBad();
        listedFromZero();
        listedBad();
        lengthWithoutInstructions();
        lengthOfPlans();
        lengthShortestUpToSeven();
        lengthOfOwnPlan();
        lengthCounts();
        lengthBad();
        placeRange();
        placeTheOneBefore();
        placeGoesWithTheInstruction();
        placeBad();
        checkValid();
        checkWithoutCycle();
        checkDependenceNotKept();
        checkFirstByJThenByI();
        checkTooMany();
        checkTheLeastOfThese();
        wrongToldLast();
        wrongNoneSuch();
        wrongBad();
        givenTheOneBefore();
        givenNoneSuch();
        runCycles();
        runWithoutInstructions();
        runNo();
        runBad();
        valueBehindTheLatestRun();
        valueBeforeAny();
        valueNoneSuch();
        due.end("BoundaryPromisesTest");
    }

    // ---- Promise 1

    private static void newHasNoInstructions() {
        due.sentence("Promise 1", "No instructions");
        BlockBench x = new BlockBench();
        due.is("length(6)", x.length(6), 0);
        due.is("length(7)", x.length(7), 0);
        due.is("about(0, 0)", x.about(0, 0), BAD);
        due.is("listed(0)", x.listed(0), BAD);
        due.is("delay(0, 0)", x.delay(0, 0), BAD);
        due.is("place(0, 0)", x.place(0, 0), BAD);
        due.is("cut(1)", x.cut(1), BAD);
        due.is("the first number", x.add(SET, 0, 0, 0, 0), 0);
    }

    private static void newIsToldZero() {
        due.sentence("Promise 1", "registers and memory are told to be 0");
        BlockBench x = new BlockBench();
        x.run(0);
        for (int k = 0; k < 16; k++) {
            due.is("value(0, " + k + ")", x.value(0, k), 0);
            due.is("given(0, " + k + ", 1)", x.given(0, k, 1), 0);
        }
        for (int k = 0; k < 64; k++) {
            due.is("value(1, " + k + ")", x.value(1, k), 0);
            due.is("given(1, " + k + ", 1)", x.given(1, k, 1), 0);
        }
    }

    // ---- Promise 2

    private static void addTellsTheNumber() {
        due.sentence("Promise 2", "An instruction more: its number.");
        BlockBench x = new BlockBench();
        for (int i = 0; i < 60; i++) {
            due.is("add", x.add(i % 7, 0, 0, 0, 0), i);
            due.is("length(6)", x.length(6), i + 1);
        }
        x.cut(60);
        due.is("the first number again", x.add(SET, 0, 0, 0, 0), 0);
    }

    private static void addBadKind() {
        due.sentence("Promise 2", "BAD: no such kind");
        BlockBench x = new BlockBench();
        for (int kind : new int[] {-1, 7, MIN, MAX}) {
            due.is("kind " + kind, x.add(kind, 1, 2, 3, 4), BAD);
            due.is("none came, length(6)", x.length(6), 0);
        }
        due.is("the least kind", x.add(0, 1, 2, 3, 4), 0);
        due.is("the greatest kind", x.add(6, 1, 2, 3, 4), 1);
    }

    private static void addBadRegister() {
        due.sentence("Promise 2", "or a register that it names is none");
        for (int kind = SET; kind <= STORE; kind++) {
            BlockBench x = new BlockBench();
            int taken = 0;
            for (int r : NO_REGISTERS) {
                due.is("kind " + kind + ", d " + r, x.add(kind, r, 0, 0, 0), namesD(kind) ? BAD : taken++);
                due.is("kind " + kind + ", a " + r, x.add(kind, 0, r, 0, 0), namesA(kind) ? BAD : taken++);
                due.is("kind " + kind + ", b " + r, x.add(kind, 0, 0, r, 0), namesB(kind) ? BAD : taken++);
                due.is("kind " + kind + ", all " + r, x.add(kind, r, r, r, 0), BAD);
            }
            due.is("kind " + kind + ", length(6)", x.length(6), taken);
            due.is("kind " + kind + ", registers 15", x.add(kind, 15, 15, 15, 0), taken);
            due.is("kind " + kind + ", registers 0", x.add(kind, 0, 0, 0, 0), taken + 1);
        }
    }

    private static void addAnyNumber() {
        due.sentence("Promise 2", "(c may be any)");
        for (int kind = SET; kind <= STORE; kind++) {
            BlockBench x = new BlockBench();
            int[] numbers = {MIN, MIN + 1, -65, -64, -1, 0, 63, 64, MAX - 1, MAX};
            for (int i = 0; i < numbers.length; i++) {
                due.is("kind " + kind + ", c " + numbers[i], x.add(kind, 1, 2, 3, numbers[i]), i);
            }
        }
    }

    private static void addFull() {
        due.sentence("Promise 2", "FULL: there are 60.");
        BlockBench x = chain(59);
        due.is("the 60th", x.add(SET, 1, 0, 0, 0), 59);
        due.is("the 61st", x.add(SET, 1, 0, 0, 0), FULL);
        due.is("the 61st once more", x.add(STORE, 0, 1, 1, 0), FULL);
        due.is("60 are there", x.length(6), 60);
        due.is("no instruction 60", x.about(60, 0), BAD);
        x.cut(1);
        due.is("room for one", x.add(SET, 1, 0, 0, 0), 59);
        due.is("and no more", x.add(SET, 1, 0, 0, 0), FULL);
        x.cut(60);
        for (int i = 0; i < 60; i++) {
            due.is("room for 60", x.add(SET, 1, 0, 0, 0), i);
        }
        due.is("and again no more", x.add(SET, 1, 0, 0, 0), FULL);
    }

    /** The document tells BAD first. */
    private static void addBadAndFull() {
        due.sentence("Promise 2", "BAD: no such kind, or a register that it names is none (c may be any). FULL: there are 60.");
        BlockBench x = chain(60);
        due.is("no such kind, and full", x.add(7, 0, 0, 0, 0), BAD);
        due.is("no such register, and full", x.add(ADD, 0, 0, 16, 0), BAD);
        due.is("not named, and full", x.add(SET, 0, 16, -1, 0), FULL);
    }

    // ---- Promise 3

    private static void cutTheLast() {
        due.sentence("Promise 3", "The last n instructions go: how many there are.");
        BlockBench x = new BlockBench();
        for (int i = 0; i < 5; i++) {
            x.add(SET, i, 0, 0, 10 + i);
        }
        due.is("none", x.cut(0), 5);
        due.is("one", x.cut(1), 4);
        due.is("two", x.cut(2), 2);
        x.run(0);
        for (int i = 0; i < 5; i++) {
            due.is("the first two stay, value(0, " + i + ")", x.value(0, i), i < 2 ? 10 + i : 0);
        }
        due.is("number 2 is gone", x.about(2, 0), BAD);
        due.is("number 1 is there", x.about(1, 0), 1);
        due.is("way of what stays", x.length(0), 1);
    }

    private static void cutToNone() {
        due.sentence("Promise 3", "The last n instructions go: how many there are.");
        BlockBench x = chain(60);
        due.is("all of 60", x.cut(60), 0);
        due.is("none of none", x.cut(0), 0);
        for (int what = 0; what <= 7; what++) {
            due.is("none there, length(" + what + ")", x.length(what), 0);
        }
        due.is("none there, run(0)", x.run(0), 0);
        due.is("none there, run(2)", x.run(2), 0);
        due.is("none there, listed(0)", x.listed(0), BAD);
    }

    /** What stood behind the end does not count, though the plans have been asked for with it. */
    private static void cutBeforeTheShortest() {
        due.sentence("Promise 3", "The last n instructions go: how many there are.");
        int[][] lastOnes = {set(9), mul(9, 9, 9), mul(10, 3, 3)};
        for (int[] last : lastOnes) {
            BlockBench x = block(set(3), set(4), mul(1, 5, 4), add(4, 3, 2), last, last);
            x.latency(SET, 3);
            x.latency(ADD, 2);
            x.latency(MUL, 12);
            x.length(4);
            x.cut(2);
            x.latency(MUL, 1);
            due.is("shortest", x.length(4), 6);
            due.is("list plan", x.length(1), 7);
            due.is("greatest WAY", x.length(0), 5);
        }
        BlockBench y = block(load(5, 1, 0), set(0), add(5, 0, 5), add(6, 0, 2), mul(9, 9, 9));
        y.latency(SET, 2);
        y.latency(ADD, 2);
        y.latency(LOAD, 2);
        y.latency(MUL, 12);
        due.is("shortest with all", y.length(4), 12);
        y.cut(1);
        due.is("shortest without the last", y.length(4), 5);
    }

    private static void cutBad() {
        due.sentence("Promise 3", "BAD: there are not so many.");
        BlockBench x = new BlockBench();
        due.is("one of none", x.cut(1), BAD);
        due.is("less than none of none", x.cut(-1), BAD);
        x.add(SET, 1, 0, 0, 0);
        x.add(SET, 2, 0, 0, 0);
        for (int n : new int[] {3, 60, 61, MAX, -1, -2, MIN}) {
            due.is("cut(" + n + ") of two", x.cut(n), BAD);
            due.is("two are there", x.length(6), 2);
        }
        BlockBench y = chain(60);
        due.is("61 of 60", y.cut(61), BAD);
        due.is("60 are there", y.length(6), 60);
        due.is("60 of 60", y.cut(60), 0);
    }

    // ---- Promise 4

    private static void latencyTheOneBefore() {
        due.sentence("Promise 4", "The LATENCY of a kind is another one: the one before.");
        BlockBench x = new BlockBench();
        for (int kind = SET; kind <= STORE; kind++) {
            due.is("at first", x.latency(kind, 12), 1);
            due.is("the greatest", x.latency(kind, 12), 12);
            due.is("the least", x.latency(kind, 1), 12);
            due.is("the least again", x.latency(kind, kind + 2), 1);
        }
        for (int kind = SET; kind <= STORE; kind++) {
            due.is("each kind has its own", x.latency(kind, 1), kind + 2);
        }
        x.add(MUL, 1, 2, 2, 0);
        x.add(ADD, 3, 1, 1, 0);
        due.is("delay before", x.delay(0, 1), 1);
        x.latency(MUL, 12);
        due.is("delay behind", x.delay(0, 1), 12);
        due.is("way behind", x.length(0), 13);
        due.is("list plan behind", x.length(1), 13);
        due.is("shortest behind", x.length(4), 13);
    }

    private static void latencyBad() {
        due.sentence("Promise 4", "BAD.");
        BlockBench x = new BlockBench();
        for (int kind = SET; kind <= STORE; kind++) {
            x.latency(kind, 5);
            for (int cycles : new int[] {0, -1, MIN, 13, 14, MAX}) {
                due.is("latency(" + kind + ", " + cycles + ")", x.latency(kind, cycles), BAD);
            }
            due.is("as it was", x.latency(kind, 6), 5);
        }
        for (int kind : new int[] {-1, 7, MIN, MAX}) {
            due.is("latency(" + kind + ", 1)", x.latency(kind, 1), BAD);
            due.is("latency(" + kind + ", 0)", x.latency(kind, 0), BAD);
        }
        for (int kind = SET; kind <= STORE; kind++) {
            due.is("each as it was", x.latency(kind, 6), 6);
        }
    }

    // ---- Promise 5

    private static void unitsTheOnesBefore() {
        due.sentence("Promise 5", "UNITS are others: how many there were.");
        BlockBench x = apart(8);
        due.is("at first", x.units(8), 1);
        due.is("the list plan follows", x.length(1), 1);
        due.is("the greatest", x.units(7), 8);
        due.is("one less", x.length(1), 2);
        due.is("another", x.units(1), 7);
        due.is("the least", x.units(1), 1);
        due.is("one unit", x.length(1), 8);
    }

    private static void unitsBad() {
        due.sentence("Promise 5", "BAD.");
        BlockBench x = new BlockBench();
        x.units(3);
        for (int n : new int[] {0, -1, MIN, 9, 10, MAX}) {
            due.is("units(" + n + ")", x.units(n), BAD);
        }
        due.is("as it was", x.units(8), 3);
        due.is("nine", x.units(9), BAD);
        due.is("none", x.units(0), BAD);
        due.is("eight still", x.units(1), 8);
    }

    // ---- Promise 6

    private static void delayNo() {
        due.sentence("Promise 6", "NO: it does not");
        BlockBench x = block(set(1), set(2), set(1));
        due.is("nothing shared", x.delay(0, 1), NO);
        due.is("on itself", x.delay(0, 0), NO);
        due.is("on itself, the last", x.delay(2, 2), NO);
        due.is("the wrong way round", x.delay(2, 0), NO);
        due.is("it does", x.delay(0, 2), 1);
        due.is("a delay of 0 is one", block(add(2, 1, 1), set(1)).delay(0, 1), 0);
    }

    private static void delayBad() {
        due.sentence("Promise 6", "BAD: no such instructions");
        BlockBench x = new BlockBench();
        due.is("none there", x.delay(0, 0), BAD);
        x.add(SET, 1, 0, 0, 0);
        x.add(SET, 1, 0, 0, 0);
        for (int i : new int[] {-1, 2, 59, 60, MIN, MAX}) {
            due.is("delay(" + i + ", 1)", x.delay(i, 1), BAD);
            due.is("delay(0, " + i + ")", x.delay(0, i), BAD);
            due.is("delay(" + i + ", " + i + ")", x.delay(i, i), BAD);
        }
        due.is("both there", x.delay(0, 1), 1);
        x.cut(1);
        due.is("the last one went", x.delay(0, 1), BAD);
        BlockBench y = chain(60);
        due.is("the last two of 60", y.delay(58, 59), 1);
        due.is("one behind 60", y.delay(59, 60), BAD);
    }

    // ---- Promise 7

    /** Only (3) and (5) are alike for the instruction in the middle, as they are for every block. */
    private static void aboutEach() {
        due.sentence("Promise 7", "its WAY (what = 0), EARLY (1), SLACK (2), its cycle in THE LIST PLAN (3)");
        BlockBench x = block(mul(1, 9, 9), add(2, 1, 1), load(3, 8, 0), set(7), set(6));
        x.latency(MUL, 4);
        x.latency(LOAD, 3);
        x.place(2, 1000);
        int[] wants = {3, 0, 2, 1, 5, 1, 1000};
        for (int what = 0; what <= 6; what++) {
            due.is("about(2, " + what + ")", x.about(2, what), wants[what]);
        }
        int[] ofTheFirst = {5, 0, 0, 0, 0, 0, NO};
        int[] ofTheLast = {1, 0, 4, 3, 7, 3, NO};
        for (int what = 0; what <= 6; what++) {
            due.is("about(0, " + what + ")", x.about(0, what), ofTheFirst[what]);
            due.is("about(4, " + what + ")", x.about(4, what), ofTheLast[what]);
        }
    }

    private static void aboutOwnWithout() {
        due.sentence("Promise 7", "in one's own plan (6; NO without)");
        BlockBench x = block(set(1), set(2));
        due.is("without", x.about(0, 6), NO);
        x.place(0, 0);
        due.is("cycle 0", x.about(0, 6), 0);
        due.is("the other one without", x.about(1, 6), NO);
        x.place(1, 1000);
        due.is("cycle 1000", x.about(1, 6), 1000);
        x.cut(1);
        x.add(SET, 2, 0, 0, 0);
        due.is("a new one without", x.about(1, 6), NO);
    }

    private static void aboutBad() {
        due.sentence("Promise 7", "BAD.");
        BlockBench none = new BlockBench();
        BlockBench x = block(set(1), set(2));
        placeAll(x, 3, 4);
        BlockBench full = chain(60);
        for (int what = 0; what <= 6; what++) {
            due.is("none there, about(0, " + what + ")", none.about(0, what), BAD);
            due.is("about(60, " + what + ") of 60", full.about(60, what), BAD);
            for (int i : new int[] {-1, 2, 60, MIN, MAX}) {
                due.is("about(" + i + ", " + what + ")", x.about(i, what), BAD);
            }
        }
        for (int what : new int[] {-1, 7, MIN, MAX}) {
            due.is("about(0, " + what + ")", x.about(0, what), BAD);
            due.is("about(2, " + what + ")", x.about(2, what), BAD);
            due.is("about(-1, " + what + ")", x.about(-1, what), BAD);
        }
        due.is("the last of 60", full.about(59, 0), 1);
    }

    // ---- Promise 8

    private static void listedFromZero() {
        due.sentence("Promise 8", "The instruction that is k-th (from 0) in the order of THE LIST PLAN.");
        BlockBench x = block(set(1), mul(2, 9, 9), add(3, 2, 2));
        listedIs("the MUL is the 0th", x, 1, 0, 2);
        listedIs("one alone", block(set(1)), 0);
        BlockBench full = new BlockBench();
        full.latency(MUL, 2);
        for (int i = 0; i < 59; i++) {
            full.add(STORE, 0, 1, 2, i);
        }
        full.add(MUL, 3, 4, 4, 0);
        due.is("the last of 60 has the longest way", full.listed(0), 59);
        due.is("then the others", full.listed(1), 0);
        due.is("the last in the order of 60", full.listed(59), 58);
    }

    private static void listedBad() {
        due.sentence("Promise 8", "BAD.");
        BlockBench x = new BlockBench();
        due.is("none there", x.listed(0), BAD);
        x.add(SET, 1, 0, 0, 0);
        due.is("listed(0)", x.listed(0), 0);
        for (int k : new int[] {-1, 1, 59, 60, MIN, MAX}) {
            due.is("listed(" + k + ")", x.listed(k), BAD);
        }
        due.is("listed(60) of 60", chain(60).listed(60), BAD);
        x.cut(1);
        due.is("gone", x.listed(0), BAD);
    }

    // ---- Promise 9

    private static void lengthWithoutInstructions() {
        due.sentence("Promise 9", "the greatest WAY (what = 0; 0 without instructions)");
        BlockBench x = new BlockBench();
        due.is("without", x.length(0), 0);
        x.add(SET, 1, 0, 0, 0);
        due.is("with one", x.length(0), 1);
        x.latency(SET, 12);
        due.is("the greatest latency", x.length(0), 12);
        x.cut(1);
        due.is("without again", x.length(0), 0);
    }

    private static void lengthOfPlans() {
        due.sentence("Promise 9", "the LENGTH of THE LIST PLAN (1), IN ORDER as it stands (2), by THE LIST PLAN (3)");
        BlockBench x = block(mul(3, 10, 14), mul(14, 3, 5), mul(15, 3, 2));
        x.latency(MUL, 3);
        due.is("the greatest WAY is less than the list plan takes", x.length(0), 6);
        due.is("list plan", x.length(1), 7);
        BlockBench y = block(load(1, 9, 0), add(2, 1, 1), load(3, 9, 1), add(4, 3, 3));
        y.latency(LOAD, 3);
        y.units(2);
        due.is("list plan, two units", y.length(1), 4);
        due.is("in order as it stands", y.length(2), 7);
        due.is("in order by the list plan", y.length(3), 4);
        for (int what = 1; what <= 3; what++) {
            due.is("without, length(" + what + ")", new BlockBench().length(what), 0);
        }
    }

    private static void lengthShortestUpToSeven() {
        due.sentence("Promise 9", "SHORTEST (4; NO with more than 7 instructions)");
        due.is("none", new BlockBench().length(4), 0);
        BlockBench x = apart(6);
        due.is("six", x.length(4), 6);
        x.add(STORE, 0, 1, 2, 6);
        due.is("seven", x.length(4), 7);
        x.add(STORE, 0, 1, 2, 7);
        due.is("eight", x.length(4), NO);
        due.is("sixty", chain(60).length(4), NO);
        x.cut(1);
        due.is("seven again", x.length(4), 7);
        x.units(8);
        due.is("seven in a cycle", x.length(4), 1);
    }

    private static void lengthOfOwnPlan() {
        due.sentence("Promise 9", "of one's own plan (5; NO: it is not VALID)");
        BlockBench x = new BlockBench();
        due.is("none there", x.length(5), 0);
        x.add(MUL, 1, 2, 2, 0);
        x.add(ADD, 3, 1, 1, 0);
        x.add(SET, 4, 0, 0, 0);
        x.latency(MUL, 3);
        due.is("without cycles", x.length(5), NO);
        placeAll(x, 0, 3);
        due.is("one without a cycle", x.length(5), NO);
        x.place(2, 0);
        due.is("too many in a cycle", x.length(5), NO);
        x.place(2, 1);
        due.is("valid", x.length(5), 4);
        x.place(1, 2);
        due.is("a delay is not kept", x.length(5), NO);
        x.place(1, 1000);
        due.is("the last cycle", x.length(5), 1001);
    }

    private static void lengthCounts() {
        due.sentence("Promise 9", "how many instructions (6), dependences (7)");
        BlockBench x = new BlockBench();
        due.is("none", x.length(6), 0);
        due.is("none, dependences", x.length(7), 0);
        x.add(STORE, 0, 1, 2, 0);
        due.is("one", x.length(6), 1);
        due.is("one, dependences", x.length(7), 0);
        for (int i = 1; i < 60; i++) {
            x.add(STORE, 0, 1, 2, 64 * i);
        }
        due.is("sixty", x.length(6), 60);
        due.is("each on all before it", x.length(7), 1770);
        due.is("the first and the last", x.delay(0, 59), 1);
        BlockBench y = block(add(1, 1, 2), add(2, 1, 1));
        due.is("two reasons, one dependence", y.length(7), 1);
        due.is("a delay of 0 is counted", block(add(2, 1, 1), set(1)).length(7), 1);
    }

    private static void lengthBad() {
        due.sentence("Promise 9", "BAD.");
        BlockBench none = new BlockBench();
        BlockBench x = block(set(1));
        for (int what : new int[] {-1, 8, MIN, MAX}) {
            due.is("length(" + what + "), none there", none.length(what), BAD);
            due.is("length(" + what + ")", x.length(what), BAD);
        }
        due.is("length(0)", x.length(0), 1);
        due.is("length(7)", x.length(7), 0);
    }

    // ---- Promise 10

    private static void placeRange() {
        due.sentence("Promise 10", "In one's own plan an instruction has a cycle (0 .. 1000)");
        BlockBench x = block(set(1));
        due.is("cycle 0", x.place(0, 0), NO);
        due.is("has 0", x.about(0, 6), 0);
        due.is("cycle 1000", x.place(0, 1000), 0);
        due.is("has 1000", x.about(0, 6), 1000);
        for (int cycle : new int[] {-1, -3, 1001, MIN, MAX}) {
            due.is("cycle " + cycle, x.place(0, cycle), BAD);
            due.is("has 1000 still", x.about(0, 6), 1000);
        }
    }

    private static void placeTheOneBefore() {
        due.sentence("Promise 10", "the one before, NO without");
        BlockBench x = chain(60);
        for (int i = 0; i < 60; i++) {
            due.is("without", x.place(i, i), NO);
            due.is("the one before", x.place(i, 1000 - i), i);
        }
        due.is("the first one", x.place(0, 1000), 1000);
        due.is("the same once more", x.place(0, 1000), 1000);
        due.is("the last one", x.place(59, 0), 941);
    }

    private static void placeGoesWithTheInstruction() {
        due.sentence("Promise 10", "It goes when the instruction goes.");
        BlockBench x = block(set(1), set(2), set(3));
        placeAll(x, 5, 6, 7);
        x.cut(0);
        aboutIs("cut(0)", x, 6, 5, 6, 7);
        x.cut(4);
        aboutIs("cut(4) is BAD", x, 6, 5, 6, 7);
        x.cut(2);
        x.add(SET, 2, 0, 0, 0);
        x.add(SET, 3, 0, 0, 0);
        aboutIs("two went", x, 6, 5, NO, NO);
        due.is("without", x.place(2, 8), NO);
        x.cut(3);
        due.is("all went", x.add(SET, 1, 0, 0, 0), 0);
        due.is("the first one, too", x.place(0, 9), NO);
        BlockBench full = chain(60);
        full.place(59, 3);
        full.cut(1);
        full.add(SET, 1, 0, 0, 0);
        due.is("the last of 60", full.about(59, 6), NO);
    }

    private static void placeBad() {
        due.sentence("Promise 10", "BAD.");
        BlockBench x = new BlockBench();
        due.is("none there", x.place(0, 0), BAD);
        x.add(SET, 1, 0, 0, 0);
        x.place(0, 4);
        for (int i : new int[] {-1, 1, 59, 60, MIN, MAX}) {
            due.is("place(" + i + ", 0)", x.place(i, 0), BAD);
            due.is("place(" + i + ", -1)", x.place(i, -1), BAD);
        }
        due.is("place(60, 0) of 60", chain(60).place(60, 0), BAD);
        x.add(SET, 2, 0, 0, 0);
        due.is("what was not there got none", x.about(1, 6), NO);
        due.is("as it was", x.about(0, 6), 4);
    }

    // ---- Promise 11

    private static void checkValid() {
        due.sentence("Promise 11", "Whether one's own plan is VALID: 0");
        checkIs("none there", new BlockBench(), 0, NO, NO);
        BlockBench x = block(set(1), add(2, 1, 1));
        placeAll(x, 0, 1);
        checkIs("as early as may be", x, 0, NO, NO);
        placeAll(x, 999, 1000);
        checkIs("as late as may be", x, 0, NO, NO);
        BlockBench full = apart(60);
        full.units(8);
        for (int i = 0; i < 60; i++) {
            full.place(i, 1000 - i / 8);
        }
        checkIs("60, eight in a cycle", full, 0, NO, NO);
        full.place(59, 1000);
        checkIs("60, nine in the last cycle", full, 3, 1000, NO);
    }

    private static void checkWithoutCycle() {
        due.sentence("Promise 11", "1 an instruction has no cycle, the first one is wrong(0)");
        BlockBench x = block(set(1), set(2), set(3));
        checkIs("none has one", x, 1, 0, NO);
        x.place(0, 0);
        checkIs("the second has none", x, 1, 1, NO);
        x.place(2, 2);
        checkIs("the second has none, the third has", x, 1, 1, NO);
        x.place(1, 1);
        checkIs("all have", x, 0, NO, NO);
        x.add(SET, 4, 0, 0, 0);
        checkIs("the new one has none", x, 1, 3, NO);
        BlockBench full = apart(60);
        for (int i = 0; i < 59; i++) {
            full.place(i, i);
        }
        checkIs("the last of 60 has none", full, 1, 59, NO);
    }

    private static void checkDependenceNotKept() {
        due.sentence("Promise 11", "2 a dependence is not kept");
        BlockBench x = block(mul(1, 2, 2), add(3, 1, 1));
        x.latency(MUL, 12);
        placeAll(x, 988, 1000);
        checkIs("just kept", x, 0, NO, NO);
        placeAll(x, 988, 999);
        checkIs("a cycle less", x, 2, 0, 1);
        placeAll(x, 1000, 0);
        checkIs("long before", x, 2, 0, 1);
        BlockBench full = apart(60);
        full.cut(1);
        full.add(STORE, 0, 1, 2, 58);
        for (int i = 0; i < 59; i++) {
            full.place(i, i);
        }
        full.place(59, 58);
        checkIs("the last two of 60", full, 2, 58, 59);
        full.place(59, 59);
        checkIs("the last two of 60, kept", full, 0, NO, NO);
    }

    private static void checkFirstByJThenByI() {
        due.sentence("Promise 11", "the first one by j, then by i: wrong(0), wrong(1) are i and j");
        BlockBench x = block(set(1), set(2), set(3), add(4, 2, 3), add(5, 1, 4));
        placeAll(x, 10, 10, 10, 10, 10);
        checkIs("all wrong: least j, then least i", x, 2, 1, 3);
        x.place(1, 9);
        checkIs("the next i of that j", x, 2, 2, 3);
        x.place(2, 9);
        checkIs("the next j, though it has a lesser i", x, 2, 0, 4);
        x.place(0, 9);
        checkIs("its next i", x, 2, 3, 4);
        x.place(4, 11);
        checkIs("all kept, three in one cycle", x, 3, 9, NO);
    }

    private static void checkTooMany() {
        due.sentence("Promise 11", "3 the first cycle with too many: wrong(0)");
        BlockBench x = apart(6);
        x.units(2);
        placeAll(x, 1000, 1000, 1000, 0, 0, 0);
        checkIs("the first cycle, not the first instruction", x, 3, 0, NO);
        x.place(5, 1);
        checkIs("the last cycle", x, 3, 1000, NO);
        x.place(2, 1);
        checkIs("as many as may be in each", x, 0, NO, NO);
        x.units(1);
        checkIs("one unit, cycle 0", x, 3, 0, NO);
        placeAll(x, 1000, 1000, 1, 0, 2, 1);
        checkIs("one unit, cycle 1", x, 3, 1, NO);
        BlockBench full = apart(60);
        full.units(8);
        for (int i = 0; i < 60; i++) {
            full.place(i, 7);
        }
        checkIs("60 in one cycle", full, 3, 7, NO);
    }

    private static void checkTheLeastOfThese() {
        due.sentence("Promise 11", "(The least of these.)");
        BlockBench x = block(set(1), add(2, 1, 1), set(3));
        placeAll(x, 4, 4);
        checkIs("1 before 2 and 3", x, 1, 2, NO);
        x.place(2, 4);
        checkIs("2 before 3", x, 2, 0, 1);
        placeAll(x, 3, 4, 4);
        checkIs("3 alone", x, 3, 4, NO);
        placeAll(x, 3, 4, 5);
        checkIs("none of these", x, 0, NO, NO);
    }

    // ---- Promise 12

    private static void wrongToldLast() {
        due.sentence("Promise 12", "What check() told last, part 0 or 1");
        BlockBench x = block(set(1), set(1));
        placeAll(x, 5, 5);
        due.is("not yet told", x.wrong(0), NO);
        x.check();
        x.place(1, 6);
        x.length(5);
        x.run(2);
        x.units(8);
        due.is("told last, part 0", x.wrong(0), 0);
        due.is("told last, part 1", x.wrong(1), 1);
        x.cut(2);
        due.is("the instructions went, part 0", x.wrong(0), 0);
        due.is("the instructions went, part 1", x.wrong(1), 1);
        x.check();
        due.is("told anew, part 0", x.wrong(0), NO);
        due.is("told anew, part 1", x.wrong(1), NO);
    }

    private static void wrongNoneSuch() {
        due.sentence("Promise 12", "NO when there is none such");
        BlockBench x = new BlockBench();
        due.is("before any check(), part 0", x.wrong(0), NO);
        due.is("before any check(), part 1", x.wrong(1), NO);
        x.add(SET, 1, 0, 0, 0);
        x.add(SET, 1, 0, 0, 0);
        x.length(5);
        x.run(2);
        due.is("only check() tells, part 0", x.wrong(0), NO);
        placeAll(x, 3, 3);
        x.check();
        due.is("behind 2, part 1", x.wrong(1), 1);
        x.add(SET, 2, 0, 0, 0);
        x.check();
        due.is("behind 1, part 0", x.wrong(0), 2);
        due.is("behind 1, part 1", x.wrong(1), NO);
        placeAll(x, 3, 4, 4);
        x.check();
        due.is("behind 3, part 0", x.wrong(0), 4);
        due.is("behind 3, part 1", x.wrong(1), NO);
        x.units(2);
        x.check();
        due.is("behind 0, part 0", x.wrong(0), NO);
        due.is("behind 0, part 1", x.wrong(1), NO);
    }

    private static void wrongBad() {
        due.sentence("Promise 12", "BAD: another part.");
        BlockBench x = block(set(1), set(1));
        placeAll(x, 3, 3);
        for (int part : new int[] {-1, 2, MIN, MAX}) {
            due.is("before any check(), part " + part, x.wrong(part), BAD);
        }
        x.check();
        for (int part : new int[] {-1, 2, MIN, MAX}) {
            due.is("part " + part, x.wrong(part), BAD);
        }
        due.is("part 0", x.wrong(0), 0);
        due.is("part 1", x.wrong(1), 1);
    }

    // ---- Promise 13

    private static void givenTheOneBefore() {
        due.sentence("Promise 13", "A register (which = 0), or a word of memory (1), is told to have a value at first: the one before.");
        BlockBench x = new BlockBench();
        int[][] places = {{0, 0}, {0, 15}, {1, 0}, {1, 15}, {1, 16}, {1, 63}};
        int[] values = {MIN, MAX, -1, 0, 7};
        for (int[] place : places) {
            int before = 0;
            for (int value : values) {
                due.is("given(" + place[0] + ", " + place[1] + ")", x.given(place[0], place[1], value), before);
                before = value;
            }
        }
        x.given(0, 0, 8);
        due.is("word 0 is another", x.given(1, 0, 7), 7);
        due.is("nothing is run", x.value(0, 0), 0);
        x.add(SET, 0, 0, 0, 99);
        x.run(0);
        due.is("it is there at first", x.value(0, 15), 7);
        due.is("a run leaves what is told", x.given(0, 0, 8), 8);
    }

    private static void givenNoneSuch() {
        due.sentence("Promise 13", "0 when there is none such.");
        BlockBench x = new BlockBench();
        for (int k = 0; k < 16; k++) {
            x.given(0, k, 100 + k);
        }
        for (int k = 0; k < 64; k++) {
            x.given(1, k, 200 + k);
        }
        for (int[] place : NO_PLACES) {
            due.is("given(" + place[0] + ", " + place[1] + ", 9)", x.given(place[0], place[1], 9), 0);
            due.is("given(" + place[0] + ", " + place[1] + ", 8)", x.given(place[0], place[1], 8), 0);
        }
        for (int k = 0; k < 16; k++) {
            due.is("register " + k + " as it was", x.given(0, k, 0), 100 + k);
        }
        for (int k = 0; k < 64; k++) {
            due.is("word " + k + " as it was", x.given(1, k, 0), 200 + k);
        }
    }

    // ---- Promise 14

    private static void runCycles() {
        due.sentence("Promise 14", "how many cycles (of 0: LENGTH of IN ORDER as it stands)");
        BlockBench x = block(load(1, 9, 0), add(2, 1, 1), load(3, 9, 1), add(4, 3, 3));
        x.latency(LOAD, 3);
        placeAll(x, 0, 10, 20, 1000);
        due.is("run(0)", x.run(0), 8);
        due.is("run(1)", x.run(1), 5);
        due.is("run(2)", x.run(2), 1001);
        x.units(2);
        due.is("run(0), two units", x.run(0), 7);
        due.is("run(1), two units", x.run(1), 4);
    }

    private static void runWithoutInstructions() {
        due.sentence("Promise 14", "The block is run as it stands (how = 0), by THE LIST PLAN (1), or one's own plan (2)");
        BlockBench x = new BlockBench();
        for (int how = 0; how <= 2; how++) {
            x.given(0, 15, 4 + how);
            x.given(1, 63, 5 + how);
            due.is("none there, run(" + how + ")", x.run(how), 0);
            due.is("what was told, register", x.value(0, 15), 4 + how);
            due.is("what was told, word", x.value(1, 63), 5 + how);
        }
    }

    private static void runNo() {
        due.sentence("Promise 14", "NO: one's own plan is not VALID.");
        BlockBench x = block(mul(1, 2, 2), add(3, 1, 1), set(4));
        x.latency(MUL, 3);
        x.given(0, 2, 5);
        x.run(0);
        x.given(0, 2, 6);
        due.is("without cycles", x.run(2), NO);
        placeAll(x, 0, 3);
        due.is("one without a cycle", x.run(2), NO);
        x.place(2, 0);
        due.is("too many in a cycle", x.run(2), NO);
        placeAll(x, 0, 2, 1);
        due.is("a delay is not kept", x.run(2), NO);
        due.is("nothing was run", x.value(0, 1), 25);
        x.place(1, 3);
        due.is("valid", x.run(2), 4);
        due.is("it was run", x.value(0, 3), 72);
        x.place(2, 3);
        due.is("not valid, run(1) goes", x.run(1), 4);
        due.is("not valid, run(0) goes", x.run(0), 5);
        due.is("not valid", x.run(2), NO);
    }

    private static void runBad() {
        due.sentence("Promise 14", "BAD.");
        BlockBench x = block(set(1));
        x.place(0, 0);
        x.given(0, 3, 7);
        for (int how : new int[] {-1, 3, MIN, MAX}) {
            due.is("run(" + how + ")", x.run(how), BAD);
            due.is("nothing was run", x.value(0, 3), 0);
        }
        x.run(2);
        x.given(0, 3, 8);
        for (int how : new int[] {-1, 3, MIN, MAX}) {
            due.is("run(" + how + ")", x.run(how), BAD);
            due.is("the run before is the latest", x.value(0, 3), 7);
        }
    }

    // ---- Promise 15

    private static void valueBehindTheLatestRun() {
        due.sentence("Promise 15", "What a register (which = 0), or word of memory (1), has behind the latest run");
        BlockBench x = block(new int[] {SET, 15, 0, 0, MAX}, new int[] {STORE, 0, 0, 15, 63}, new int[] {SET, 0, 0, 0, MIN});
        x.run(0);
        due.is("register 0", x.value(0, 0), MIN);
        due.is("register 15", x.value(0, 15), MAX);
        due.is("word 63", x.value(1, 63), MAX);
        due.is("word 0", x.value(1, 0), 0);
        x.cut(3);
        x.given(0, 15, 3);
        due.is("no run since", x.value(0, 15), MAX);
        x.run(1);
        due.is("another run, register", x.value(0, 15), 3);
        due.is("another run, word", x.value(1, 63), 0);
    }

    private static void valueBeforeAny() {
        due.sentence("Promise 15", "0 before any");
        BlockBench x = block(set(1));
        for (int k = 0; k < 16; k++) {
            x.given(0, k, 5);
            due.is("register " + k, x.value(0, k), 0);
        }
        for (int k = 0; k < 64; k++) {
            x.given(1, k, 5);
            due.is("word " + k, x.value(1, k), 0);
        }
        x.run(2);
        x.run(3);
        due.is("a refused run is none", x.value(0, 2), 0);
    }

    private static void valueNoneSuch() {
        due.sentence("Promise 15", "or when there is none such");
        BlockBench x = new BlockBench();
        for (int k = 0; k < 16; k++) {
            x.given(0, k, 100 + k);
        }
        for (int k = 0; k < 64; k++) {
            x.given(1, k, 200 + k);
        }
        for (int[] place : NO_PLACES) {
            due.is("before any, value(" + place[0] + ", " + place[1] + ")", x.value(place[0], place[1]), 0);
        }
        x.run(0);
        for (int[] place : NO_PLACES) {
            due.is("value(" + place[0] + ", " + place[1] + ")", x.value(place[0], place[1]), 0);
        }
        due.is("the last register", x.value(0, 15), 115);
        due.is("the last word", x.value(1, 63), 263);
    }
}
