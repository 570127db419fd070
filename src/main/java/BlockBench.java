import java.util.Arrays;

/** A bench for a block of instructions: dependences, plans and runs. */
public final class BlockBench {
    public static final int BAD = -1;
    public static final int FULL = -2;
    public static final int NO = -3;

    private static final int MOST_INSTRUCTIONS = 60;
    private static final int MOST_PAIRS = MOST_INSTRUCTIONS * (MOST_INSTRUCTIONS - 1) / 2;
    private static final int MOST_FOR_SHORTEST = 7;
    private static final int REGISTERS = 16;
    private static final int WORDS = 64;
    private static final int MOST_LATENCY = 12;
    private static final int MOST_UNITS = 8;
    private static final int LAST_CYCLE = 1000;

    private static final int SET = 0;
    private static final int ADD = 1;
    private static final int SUB = 2;
    private static final int MUL = 3;
    private static final int LESS = 4;
    private static final int LOAD = 5;
    private static final int STORE = 6;
    private static final int KINDS = 7;

    private final Block block;
    private final Dependences dependences;
    private final ListPlan listPlan;
    private final OrderedPlan standingPlan;
    private final OrderedPlan relistedPlan;
    private final ShortestSearch search;
    private final OwnPlan ownPlan;
    private final Machine machine;
    private final int[] standingOrder;
    private boolean stale;
    private boolean shortestKnown;
    private int shortestLength;
    private int toldFirst;
    private int toldSecond;

    public BlockBench() {
        block = new Block();
        dependences = new Dependences(block);
        listPlan = new ListPlan(block, dependences);
        standingPlan = new OrderedPlan(block, dependences);
        relistedPlan = new OrderedPlan(block, dependences);
        search = new ShortestSearch(block, dependences);
        ownPlan = new OwnPlan(block, dependences);
        machine = new Machine(block);
        standingOrder = new int[MOST_INSTRUCTIONS];
        for (int i = 0; i < MOST_INSTRUCTIONS; i++) {
            standingOrder[i] = i;
        }
        stale = true;
        toldFirst = NO;
        toldSecond = NO;
    }

    public int add(int kind, int d, int a, int b, int c) {
        if (!isKind(kind) || !namesRegistersOnly(kind, d, a, b)) {
            return BAD;
        }
        if (block.count >= MOST_INSTRUCTIONS) {
            return FULL;
        }
        stale = true;
        return block.append(kind, d, a, b, c);
    }

    public int cut(int n) {
        if (n < 0 || n > block.count) {
            return BAD;
        }
        stale = true;
        block.count -= n;
        ownPlan.forgetFrom(block.count);
        return block.count;
    }

    public int latency(int kind, int cycles) {
        if (!isKind(kind) || cycles < 1 || cycles > MOST_LATENCY) {
            return BAD;
        }
        stale = true;
        int before = block.latencies[kind];
        block.latencies[kind] = cycles;
        return before;
    }

    public int units(int n) {
        if (n < 1 || n > MOST_UNITS) {
            return BAD;
        }
        stale = true;
        int before = block.units;
        block.units = n;
        return before;
    }

    public int delay(int i, int j) {
        if (!block.holds(i) || !block.holds(j)) {
            return BAD;
        }
        refresh();
        return dependences.between(i, j);
    }

    public int about(int i, int what) {
        if (!block.holds(i)) {
            return BAD;
        }
        refresh();
        switch (what) {
            case 0: return dependences.ways[i];
            case 1: return dependences.earlies[i];
            case 2: return dependences.longestWay - dependences.ways[i] - dependences.earlies[i];
            case 3: return listPlan.cycles[i];
            case 4: return standingPlan.cycles[i];
            case 5: return relistedPlan.cycles[i];
            case 6: return ownPlan.cycles[i];
            default: return BAD;
        }
    }

    public int listed(int k) {
        if (!block.holds(k)) {
            return BAD;
        }
        refresh();
        return listPlan.order[k];
    }

    public int length(int what) {
        refresh();
        switch (what) {
            case 0: return dependences.longestWay;
            case 1: return block.lengthOf(listPlan.cycles);
            case 2: return block.lengthOf(standingPlan.cycles);
            case 3: return block.lengthOf(relistedPlan.cycles);
            case 4: return shortest();
            case 5: return ownPlan.inspect() == OwnPlan.VALID ? block.lengthOf(ownPlan.cycles) : NO;
            case 6: return block.count;
            case 7: return dependences.pairs;
            default: return BAD;
        }
    }

    public int place(int i, int cycle) {
        if (!block.holds(i) || cycle < 0 || cycle > LAST_CYCLE) {
            return BAD;
        }
        int before = ownPlan.cycles[i];
        ownPlan.cycles[i] = cycle;
        return before;
    }

    public int check() {
        refresh();
        int verdict = ownPlan.inspect();
        toldFirst = ownPlan.first;
        toldSecond = ownPlan.second;
        return verdict;
    }

    public int wrong(int part) {
        switch (part) {
            case 0: return toldFirst;
            case 1: return toldSecond;
            default: return BAD;
        }
    }

    public int given(int which, int k, int v) {
        return machine.tell(which, k, v);
    }

    public int run(int how) {
        refresh();
        switch (how) {
            case 0:
                machine.runAsItStands();
                return block.lengthOf(standingPlan.cycles);
            case 1:
                return runByPlan(listPlan.cycles);
            case 2:
                return ownPlan.inspect() == OwnPlan.VALID ? runByPlan(ownPlan.cycles) : NO;
            default:
                return BAD;
        }
    }

    public int value(int which, int k) {
        return machine.look(which, k);
    }

    private int runByPlan(int[] cycles) {
        machine.runByCycles(cycles);
        return block.lengthOf(cycles);
    }

    private int shortest() {
        if (block.count > MOST_FOR_SHORTEST) {
            return NO;
        }
        if (!shortestKnown) {
            shortestLength = search.leastLength(block.lengthOf(listPlan.cycles));
            shortestKnown = true;
        }
        return shortestLength;
    }

    /** Plans are asked for far more often than the block changes, so they are kept until it does. */
    private void refresh() {
        if (!stale) {
            return;
        }
        dependences.find();
        listPlan.make();
        standingPlan.make(standingOrder);
        relistedPlan.make(listPlan.order);
        shortestKnown = false;
        stale = false;
    }

    private static boolean isKind(int kind) {
        return kind >= 0 && kind < KINDS;
    }

    private static boolean isRegister(int r) {
        return r >= 0 && r < REGISTERS;
    }

    private static boolean namesTarget(int kind) {
        return kind != STORE;
    }

    private static boolean namesFirst(int kind) {
        return kind != SET;
    }

    private static boolean namesSecond(int kind) {
        return kind != SET && kind != LOAD;
    }

    private static boolean namesRegistersOnly(int kind, int d, int a, int b) {
        return (!namesTarget(kind) || isRegister(d))
            && (!namesFirst(kind) || isRegister(a))
            && (!namesSecond(kind) || isRegister(b));
    }

    /** The instructions as they stand, and the machine's latencies and units. */
    private static final class Block {
        final int[] kinds;
        final int[] targets;
        final int[] firsts;
        final int[] seconds;
        final int[] numbers;
        final int[] latencies;
        int count;
        int units;

        Block() {
            kinds = new int[MOST_INSTRUCTIONS];
            targets = new int[MOST_INSTRUCTIONS];
            firsts = new int[MOST_INSTRUCTIONS];
            seconds = new int[MOST_INSTRUCTIONS];
            numbers = new int[MOST_INSTRUCTIONS];
            latencies = new int[KINDS];
            Arrays.fill(latencies, 1);
            units = 1;
        }

        boolean holds(int i) {
            return i >= 0 && i < count;
        }

        /** Registers that the kind does not name are kept as 0, so that every kept one is an index. */
        int append(int kind, int d, int a, int b, int c) {
            int i = count;
            kinds[i] = kind;
            targets[i] = namesTarget(kind) ? d : 0;
            firsts[i] = namesFirst(kind) ? a : 0;
            seconds[i] = namesSecond(kind) ? b : 0;
            numbers[i] = c;
            count++;
            return i;
        }

        int latencyOf(int i) {
            return latencies[kinds[i]];
        }

        /** The registers that an instruction writes, a bit each. */
        int written(int i) {
            return namesTarget(kinds[i]) ? 1 << targets[i] : 0;
        }

        /** The registers that an instruction reads, a bit each. */
        int read(int i) {
            int bits = 0;
            if (namesFirst(kinds[i])) {
                bits |= 1 << firsts[i];
            }
            if (namesSecond(kinds[i])) {
                bits |= 1 << seconds[i];
            }
            return bits;
        }

        boolean usesMemory(int i) {
            return kinds[i] == LOAD || kinds[i] == STORE;
        }

        int lengthOf(int[] cycles) {
            int length = 0;
            for (int i = 0; i < count; i++) {
                length = Math.max(length, cycles[i] + latencyOf(i));
            }
            return length;
        }
    }

    /** What depends on what, and what follows from that alone: ways and early cycles. */
    private static final class Dependences {
        final int[] ways;
        final int[] earlies;
        int pairs;
        int longestWay;
        private final Block block;
        private final int[] delays;

        Dependences(Block block) {
            this.block = block;
            delays = new int[MOST_PAIRS];
            ways = new int[MOST_INSTRUCTIONS];
            earlies = new int[MOST_INSTRUCTIONS];
        }

        void find() {
            pairs = 0;
            for (int j = 0; j < block.count; j++) {
                findDelaysOf(j);
                earlies[j] = leastCycle(j, earlies);
            }
            findWays();
        }

        /** The delay by which j depends on i, NO if it does not. */
        int between(int i, int j) {
            return i < j ? delays[rowOf(j) + i] : NO;
        }

        /** The least cycle that keeps j's delays behind those before it that have a cycle (0 or more). */
        int leastCycle(int j, int[] cycles) {
            int least = 0;
            int row = rowOf(j);
            for (int i = 0; i < j; i++) {
                int delay = delays[row + i];
                if (delay != NO && cycles[i] >= 0) {
                    least = Math.max(least, cycles[i] + delay);
                }
            }
            return least;
        }

        /** Only pairs with i before j are kept, so the row of j has j places. */
        private static int rowOf(int j) {
            return j * (j - 1) / 2;
        }

        /** From j backwards, so that the registers written between are at hand for each i. */
        private void findDelaysOf(int j) {
            int row = rowOf(j);
            int writtenBetween = 0;
            for (int i = j - 1; i >= 0; i--) {
                // NO is less than every delay, so the greater one is right without it, too.
                int delay = Math.max(registerDelay(i, j, ~writtenBetween), memoryDelay(i, j, writtenBetween));
                delays[row + i] = delay;
                if (delay != NO) {
                    pairs++;
                }
                writtenBetween |= block.written(i);
            }
        }

        private int registerDelay(int i, int j, int open) {
            int delay = NO;
            if ((block.read(j) & block.written(i) & open) != 0) {
                delay = block.latencyOf(i);
            }
            if ((block.written(j) & block.read(i) & open) != 0) {
                delay = Math.max(delay, 0);
            }
            if ((block.written(j) & block.written(i) & open) != 0) {
                // j's value must come at least a cycle behind i's.
                int behind = block.latencyOf(i) - block.latencyOf(j) + 1;
                delay = Math.max(delay, Math.max(1, behind));
            }
            return delay;
        }

        private int memoryDelay(int i, int j, int writtenBetween) {
            if (!block.usesMemory(i) || !block.usesMemory(j)) {
                return NO;
            }
            boolean storeFirst = block.kinds[i] == STORE;
            boolean storeThen = block.kinds[j] == STORE;
            if (!storeFirst && !storeThen) {
                return NO;
            }
            if (areApart(i, j, writtenBetween | block.written(i))) {
                return NO;
            }
            if (storeFirst && storeThen) {
                return 1;
            }
            return storeFirst ? block.latencyOf(i) : 0;
        }

        private boolean areApart(int i, int j, int changed) {
            int base = block.firsts[i];
            return base == block.firsts[j]
                && (changed & (1 << base)) == 0
                && Math.floorMod(block.numbers[i], WORDS) != Math.floorMod(block.numbers[j], WORDS);
        }

        /** From the last one back, so that the ways of all that may depend on i are known. */
        private void findWays() {
            longestWay = 0;
            for (int i = block.count - 1; i >= 0; i--) {
                int way = block.latencyOf(i);
                for (int j = i + 1; j < block.count; j++) {
                    int delay = between(i, j);
                    if (delay != NO) {
                        way = Math.max(way, delay + ways[j]);
                    }
                }
                ways[i] = way;
                longestWay = Math.max(longestWay, way);
            }
        }
    }

    /** The plan that is made cycle by cycle, with the longest way ahead first. */
    private static final class ListPlan {
        final int[] cycles;
        final int[] order;
        private final Block block;
        private final Dependences dependences;
        private final int[] waitsFor;
        private final int[] possibleFrom;

        ListPlan(Block block, Dependences dependences) {
            this.block = block;
            this.dependences = dependences;
            cycles = new int[MOST_INSTRUCTIONS];
            order = new int[MOST_INSTRUCTIONS];
            waitsFor = new int[MOST_INSTRUCTIONS];
            possibleFrom = new int[MOST_INSTRUCTIONS];
        }

        void make() {
            forgetCycles();
            int cycle = 0;
            int inCycle = 0;
            for (int k = 0; k < block.count; k++) {
                int next = inCycle < block.units ? bestFor(cycle) : NO;
                if (next == NO) {
                    cycle = firstPossibleBehind(cycle);
                    inCycle = 0;
                    next = bestFor(cycle);
                }
                if (next == NO) {
                    return;
                }
                order[k] = next;
                giveCycle(next, cycle);
                inCycle++;
            }
        }

        private void forgetCycles() {
            for (int j = 0; j < block.count; j++) {
                cycles[j] = NO;
                possibleFrom[j] = 0;
                waitsFor[j] = 0;
                for (int i = 0; i < j; i++) {
                    if (dependences.between(i, j) != NO) {
                        waitsFor[j]++;
                    }
                }
            }
        }

        private boolean isFree(int i) {
            return cycles[i] == NO && waitsFor[i] == 0;
        }

        private int bestFor(int cycle) {
            int best = NO;
            for (int i = 0; i < block.count; i++) {
                if (isFree(i) && possibleFrom[i] <= cycle
                    && (best == NO || dependences.ways[i] > dependences.ways[best])) {
                    best = i;
                }
            }
            return best;
        }

        /** Cycles that no instruction may be in are passed over at once. */
        private int firstPossibleBehind(int cycle) {
            int first = NO;
            for (int i = 0; i < block.count; i++) {
                if (isFree(i) && (first == NO || possibleFrom[i] < first)) {
                    first = possibleFrom[i];
                }
            }
            return Math.max(first, cycle + 1);
        }

        private void giveCycle(int i, int cycle) {
            cycles[i] = cycle;
            for (int j = i + 1; j < block.count; j++) {
                int delay = dependences.between(i, j);
                if (delay != NO) {
                    waitsFor[j]--;
                    possibleFrom[j] = Math.max(possibleFrom[j], cycle + delay);
                }
            }
        }
    }

    /** What an in-order pipeline makes of an order. */
    private static final class OrderedPlan {
        final int[] cycles;
        private final Block block;
        private final Dependences dependences;

        OrderedPlan(Block block, Dependences dependences) {
            this.block = block;
            this.dependences = dependences;
            cycles = new int[MOST_INSTRUCTIONS];
        }

        /** In the order, each one stands behind all on which it depends. */
        void make(int[] order) {
            int cycle = 0;
            int inCycle = 0;
            for (int k = 0; k < block.count; k++) {
                int i = order[k];
                int least = dependences.leastCycle(i, cycles);
                if (inCycle == block.units) {
                    least = Math.max(least, cycle + 1);
                }
                if (least > cycle) {
                    cycle = least;
                    inCycle = 0;
                }
                cycles[i] = cycle;
                inCycle++;
            }
        }
    }

    /**
     * The least length of all valid plans. Instructions sorted by the cycles of a valid plan get no later cycles
     * in order than they have in it, so it is enough to look at what the orders give.
     */
    private static final class ShortestSearch {
        private final Block block;
        private final Dependences dependences;
        private final int[] cycles;
        private int best;

        ShortestSearch(Block block, Dependences dependences) {
            this.block = block;
            this.dependences = dependences;
            cycles = new int[MOST_INSTRUCTIONS];
        }

        int leastLength(int knownLength) {
            best = knownLength;
            Arrays.fill(cycles, NO);
            tryAll(0, 0, 0);
            return best;
        }

        private void tryAll(int placed, int cycle, int inCycle) {
            if (placed >= block.count || placed >= MOST_FOR_SHORTEST) {
                best = Math.min(best, block.lengthOf(cycles));
                return;
            }
            if (isHopeless(cycle, inCycle)) {
                return;
            }
            int from = inCycle < block.units ? cycle : cycle + 1;
            for (int i = 0; i < block.count; i++) {
                if (cycles[i] == NO && isFree(i)) {
                    int at = Math.max(from, dependences.leastCycle(i, cycles));
                    cycles[i] = at;
                    tryAll(placed + 1, at, at == cycle ? inCycle + 1 : 1);
                    cycles[i] = NO;
                }
            }
        }

        private boolean isFree(int j) {
            for (int i = 0; i < j; i++) {
                if (cycles[i] == NO && dependences.between(i, j) != NO) {
                    return false;
                }
            }
            return true;
        }

        /** Whether one without a cycle has too long a way ahead for a plan shorter than the best. */
        private boolean isHopeless(int cycle, int inCycle) {
            for (int i = 0; i < block.count; i++) {
                if (cycles[i] == NO) {
                    // Of those with at least this way, the last one has all the others before it or beside it.
                    int lastOfThem = cycle + (inCycle + howManyWithWay(dependences.ways[i]) - 1) / block.units;
                    int at = Math.max(lastOfThem, dependences.leastCycle(i, cycles));
                    if (at + dependences.ways[i] >= best) {
                        return true;
                    }
                }
            }
            return false;
        }

        private int howManyWithWay(int least) {
            int many = 0;
            for (int i = 0; i < block.count; i++) {
                if (cycles[i] == NO && dependences.ways[i] >= least) {
                    many++;
                }
            }
            return many;
        }
    }

    /** A plan of one's own, and what is wrong with it. */
    private static final class OwnPlan {
        static final int VALID = 0;
        static final int WITHOUT_CYCLE = 1;
        static final int DELAY_NOT_KEPT = 2;
        static final int TOO_MANY = 3;

        final int[] cycles;
        int first;
        int second;
        private final Block block;
        private final Dependences dependences;

        OwnPlan(Block block, Dependences dependences) {
            this.block = block;
            this.dependences = dependences;
            cycles = new int[MOST_INSTRUCTIONS];
            Arrays.fill(cycles, NO);
            first = NO;
            second = NO;
        }

        void forgetFrom(int count) {
            for (int i = count; i < MOST_INSTRUCTIONS; i++) {
                cycles[i] = NO;
            }
        }

        int inspect() {
            first = NO;
            second = NO;
            if (findWithoutCycle()) {
                return WITHOUT_CYCLE;
            }
            if (findDelayNotKept()) {
                return DELAY_NOT_KEPT;
            }
            return findTooMany() ? TOO_MANY : VALID;
        }

        private boolean findWithoutCycle() {
            for (int i = 0; i < block.count; i++) {
                if (cycles[i] == NO) {
                    first = i;
                    return true;
                }
            }
            return false;
        }

        private boolean findDelayNotKept() {
            for (int j = 0; j < block.count; j++) {
                for (int i = 0; i < j; i++) {
                    int delay = dependences.between(i, j);
                    if (delay != NO && cycles[j] < cycles[i] + delay) {
                        first = i;
                        second = j;
                        return true;
                    }
                }
            }
            return false;
        }

        private boolean findTooMany() {
            for (int i = 0; i < block.count; i++) {
                boolean sooner = first == NO || cycles[i] < first;
                if (sooner && howManyIn(cycles[i]) > block.units) {
                    first = cycles[i];
                }
            }
            return first != NO;
        }

        private int howManyIn(int cycle) {
            int many = 0;
            for (int i = 0; i < block.count; i++) {
                if (cycles[i] == cycle) {
                    many++;
                }
            }
            return many;
        }
    }

    /** Registers and memory, as told and behind the latest run. */
    private static final class Machine {
        private final Block block;
        private final int[] toldRegisters;
        private final int[] toldMemory;
        private final int[] registers;
        private final int[] memory;
        private final int[] results;
        private final int[] addresses;

        Machine(Block block) {
            this.block = block;
            toldRegisters = new int[REGISTERS];
            toldMemory = new int[WORDS];
            registers = new int[REGISTERS];
            memory = new int[WORDS];
            results = new int[MOST_INSTRUCTIONS];
            addresses = new int[MOST_INSTRUCTIONS];
        }

        int tell(int which, int k, int v) {
            if (!isPlace(which, k)) {
                return 0;
            }
            int[] row = which == 0 ? toldRegisters : toldMemory;
            int before = row[k];
            row[k] = v;
            return before;
        }

        int look(int which, int k) {
            if (!isPlace(which, k)) {
                return 0;
            }
            return which == 0 ? registers[k] : memory[k];
        }

        void runAsItStands() {
            startAnew();
            for (int i = 0; i < block.count; i++) {
                begin(i);
                come(i);
            }
        }

        /** Cycles in which nothing comes or begins are passed over: two for each instruction are the most. */
        void runByCycles(int[] cycles) {
            startAnew();
            int now = nextMoment(NO, cycles);
            for (int moment = 0; moment < 2 * block.count && now != NO; moment++) {
                comeIn(now, cycles);
                beginIn(now, cycles);
                now = nextMoment(now, cycles);
            }
        }

        private static boolean isPlace(int which, int k) {
            if (which == 0) {
                return isRegister(k);
            }
            return which == 1 && k >= 0 && k < WORDS;
        }

        private void startAnew() {
            System.arraycopy(toldRegisters, 0, registers, 0, REGISTERS);
            System.arraycopy(toldMemory, 0, memory, 0, WORDS);
        }

        /** The next cycle in which something comes or begins, NO if there is none. */
        private int nextMoment(int now, int[] cycles) {
            int next = NO;
            for (int i = 0; i < block.count; i++) {
                int start = cycles[i];
                int moment = start > now ? start : start + block.latencyOf(i);
                if (moment > now && (next == NO || moment < next)) {
                    next = moment;
                }
            }
            return next;
        }

        private void comeIn(int now, int[] cycles) {
            for (int i = 0; i < block.count; i++) {
                if (cycles[i] + block.latencyOf(i) == now) {
                    come(i);
                }
            }
        }

        private void beginIn(int now, int[] cycles) {
            for (int i = 0; i < block.count; i++) {
                if (cycles[i] == now) {
                    begin(i);
                }
            }
        }

        /** All that is read is read here; what comes of it waits for its cycle. */
        private void begin(int i) {
            int first = registers[block.firsts[i]];
            int second = registers[block.seconds[i]];
            int number = block.numbers[i];
            addresses[i] = Math.floorMod(first + number, WORDS);
            switch (block.kinds[i]) {
                case SET: results[i] = number; break;
                case ADD: results[i] = first + second; break;
                case SUB: results[i] = first - second; break;
                case MUL: results[i] = first * second; break;
                case LESS: results[i] = first < second ? 1 : 0; break;
                case LOAD: results[i] = memory[addresses[i]]; break;
                default: results[i] = second; break;
            }
        }

        private void come(int i) {
            if (block.kinds[i] == STORE) {
                memory[addresses[i]] = results[i];
            } else {
                registers[block.targets[i]] = results[i];
            }
        }
    }
}
