/** What the tests of boundary cases share: names, and blocks that many of them look at. */
abstract class Boundary {
    static final int BAD = -1;
    static final int FULL = -2;
    static final int NO = -3;
    static final int SET = 0;
    static final int ADD = 1;
    static final int SUB = 2;
    static final int MUL = 3;
    static final int LESS = 4;
    static final int LOAD = 5;
    static final int STORE = 6;
    static final int MIN = Integer.MIN_VALUE;
    static final int MAX = Integer.MAX_VALUE;

    /** Just outside of 0 .. 15, and far outside. */
    static final int[] NO_REGISTERS = {-1, 16, MIN, MAX};

    /** Pairs (which, k) that name no register and no word. */
    static final int[][] NO_PLACES = {
        {0, -1}, {0, 16}, {0, MIN}, {0, MAX},
        {1, -1}, {1, 64}, {1, MIN}, {1, MAX},
        {-1, 0}, {2, 0}, {MIN, 0}, {MAX, 0}, {-1, -1}, {2, 64},
    };

    static final Due due = new Due();

    static boolean namesD(int kind) {
        return kind != STORE;
    }

    static boolean namesA(int kind) {
        return kind != SET;
    }

    static boolean namesB(int kind) {
        return kind != SET && kind != LOAD;
    }

    /** Instructions (kind, d, a, b, c), one after the other. */
    static BlockBench block(int[]... instructions) {
        BlockBench x = new BlockBench();
        for (int[] one : instructions) {
            x.add(one[0], one[1], one[2], one[3], one[4]);
        }
        return x;
    }

    static int[] set(int d) {
        return new int[] {SET, d, 0, 0, 0};
    }

    static int[] add(int d, int a, int b) {
        return new int[] {ADD, d, a, b, 0};
    }

    static int[] mul(int d, int a, int b) {
        return new int[] {MUL, d, a, b, 0};
    }

    static int[] load(int d, int a, int c) {
        return new int[] {LOAD, d, a, 0, c};
    }

    static int[] store(int a, int c, int b) {
        return new int[] {STORE, 0, a, b, c};
    }

    /** So many STOREs at words of their own, of which none depends on another. */
    static BlockBench apart(int many) {
        BlockBench x = new BlockBench();
        for (int i = 0; i < many; i++) {
            x.add(STORE, 0, 1, 2, i);
        }
        return x;
    }

    /** So many ADDs, each of which needs the one before it. */
    static BlockBench chain(int many) {
        BlockBench x = new BlockBench();
        for (int i = 0; i < many; i++) {
            x.add(ADD, 1, 1, 1, 0);
        }
        return x;
    }

    static void placeAll(BlockBench x, int... cycles) {
        for (int i = 0; i < cycles.length; i++) {
            x.place(i, cycles[i]);
        }
    }

    static void aboutIs(String call, BlockBench x, int what, int... wants) {
        for (int i = 0; i < wants.length; i++) {
            due.is(call + ", about(" + i + ", " + what + ")", x.about(i, what), wants[i]);
        }
    }

    static void listedIs(String call, BlockBench x, int... wants) {
        for (int k = 0; k < wants.length; k++) {
            due.is(call + ", listed(" + k + ")", x.listed(k), wants[k]);
        }
    }

    static void checkIs(String call, BlockBench x, int verdict, int first, int second) {
        due.is(call + ", check()", x.check(), verdict);
        due.is(call + ", wrong(0)", x.wrong(0), first);
        due.is(call + ", wrong(1)", x.wrong(1), second);
    }
}
