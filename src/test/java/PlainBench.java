import java.util.ArrayList;
import java.util.Arrays;
import java.util.List;

/** The document word by word, with no thought of speed: what ReferenceTest holds the program against. */
final class PlainBench {
    private static final int BAD = -1;
    private static final int FULL = -2;
    private static final int NO = -3;
    private static final int UNKNOWN = -99;

    private record Instruction(int kind, int d, int a, int b, int c) {
        boolean writes(int r) {
            return kind != 6 && d == r;
        }

        boolean reads(int r) {
            return switch (kind) {
                case 0 -> false;
                case 5 -> a == r;
                default -> a == r || b == r;
            };
        }
    }

    private final List<Instruction> block = new ArrayList<>();
    private final List<Integer> own = new ArrayList<>();
    private final int[] latencies = {1, 1, 1, 1, 1, 1, 1};
    private final int[][] delays = new int[60][60];
    private int units = 1;
    private final int[][] told = {new int[16], new int[64]};
    private int[][] now = {new int[16], new int[64]};
    private int wrong0 = NO;
    private int wrong1 = NO;

    int add(int kind, int d, int a, int b, int c) {
        boolean good = switch (kind) {
            case 0 -> register(d);
            case 1, 2, 3, 4 -> register(d) && register(a) && register(b);
            case 5 -> register(d) && register(a);
            case 6 -> register(a) && register(b);
            default -> false;
        };
        if (!good) {
            return BAD;
        }
        if (block.size() == 60) {
            return FULL;
        }
        forgetDelays();
        block.add(new Instruction(kind, d, a, b, c));
        own.add(NO);
        return block.size() - 1;
    }

    int cut(int n) {
        if (n < 0 || n > block.size()) {
            return BAD;
        }
        forgetDelays();
        for (int i = 0; i < n; i++) {
            block.remove(block.size() - 1);
            own.remove(own.size() - 1);
        }
        return block.size();
    }

    int latency(int kind, int cycles) {
        if (kind < 0 || kind > 6 || cycles < 1 || cycles > 12) {
            return BAD;
        }
        forgetDelays();
        int before = latencies[kind];
        latencies[kind] = cycles;
        return before;
    }

    int units(int n) {
        if (n < 1 || n > 8) {
            return BAD;
        }
        int before = units;
        units = n;
        return before;
    }

    int delay(int i, int j) {
        return there(i) && there(j) ? depends(i, j) : BAD;
    }

    int about(int i, int what) {
        if (!there(i)) {
            return BAD;
        }
        return switch (what) {
            case 0 -> ways()[i];
            case 1 -> earlies()[i];
            case 2 -> longestWay() - ways()[i] - earlies()[i];
            case 3 -> listPlan(new ArrayList<>())[i];
            case 4 -> inOrder(standing())[i];
            case 5 -> inOrder(listOrder())[i];
            case 6 -> own.get(i);
            default -> BAD;
        };
    }

    int listed(int k) {
        return there(k) ? listOrder().get(k) : BAD;
    }

    int length(int what) {
        return switch (what) {
            case 0 -> longestWay();
            case 1 -> lengthOf(listPlan(new ArrayList<>()));
            case 2 -> lengthOf(inOrder(standing()));
            case 3 -> lengthOf(inOrder(listOrder()));
            case 4 -> block.size() > 7 ? NO : shortest();
            case 5 -> judge()[0] == 0 ? lengthOf(ownCycles()) : NO;
            case 6 -> block.size();
            case 7 -> dependences();
            default -> BAD;
        };
    }

    int place(int i, int cycle) {
        return there(i) && cycle >= 0 && cycle <= 1000 ? own.set(i, cycle) : BAD;
    }

    int check() {
        int[] judged = judge();
        wrong0 = judged[1];
        wrong1 = judged[2];
        return judged[0];
    }

    int wrong(int part) {
        return part == 0 ? wrong0 : part == 1 ? wrong1 : BAD;
    }

    int given(int which, int k, int v) {
        if (which < 0 || which > 1 || k < 0 || k >= told[which].length) {
            return 0;
        }
        int before = told[which][k];
        told[which][k] = v;
        return before;
    }

    int run(int how) {
        if (how == 0) {
            runAsItStands();
            return length(2);
        }
        if (how == 1) {
            int[] cycles = listPlan(new ArrayList<>());
            runBy(cycles);
            return lengthOf(cycles);
        }
        if (how == 2) {
            if (judge()[0] != 0) {
                return NO;
            }
            runBy(ownCycles());
            return lengthOf(ownCycles());
        }
        return BAD;
    }

    int value(int which, int k) {
        return which < 0 || which > 1 || k < 0 || k >= now[which].length ? 0 : now[which][k];
    }

    int[] valuesNow() {
        int[] all = new int[80];
        System.arraycopy(now[0], 0, all, 0, 16);
        System.arraycopy(now[1], 0, all, 16, 64);
        return all;
    }

    private static boolean register(int r) {
        return r >= 0 && r <= 15;
    }

    private boolean there(int i) {
        return i >= 0 && i < block.size();
    }

    private int latencyOf(int i) {
        return latencies[block.get(i).kind()];
    }

    private boolean writtenIn(int r, int from, int before) {
        for (int k = from; k < before; k++) {
            if (block.get(k).writes(r)) {
                return true;
            }
        }
        return false;
    }

    private int depends(int i, int j) {
        if (i >= j) {
            return NO;
        }
        // Kept until the block changes: the tests would take minutes without.
        if (delays[i][j] == UNKNOWN) {
            delays[i][j] = workOutDelay(i, j);
        }
        return delays[i][j];
    }

    private void forgetDelays() {
        for (int[] row : delays) {
            Arrays.fill(row, UNKNOWN);
        }
    }

    private int workOutDelay(int i, int j) {
        Instruction first = block.get(i);
        Instruction then = block.get(j);
        int greatest = NO;
        for (int r = 0; r < 16; r++) {
            if (writtenIn(r, i + 1, j)) {
                continue;
            }
            if (then.reads(r) && first.writes(r)) {
                greatest = Math.max(greatest, latencyOf(i));
            }
            if (then.writes(r) && first.reads(r)) {
                greatest = Math.max(greatest, 0);
            }
            if (then.writes(r) && first.writes(r)) {
                greatest = Math.max(greatest, Math.max(1, latencyOf(i) - latencyOf(j) + 1));
            }
        }
        boolean memory = first.kind() >= 5 && then.kind() >= 5;
        if (memory && mayBeAtOnePlace(i, j)) {
            if (first.kind() == 6 && then.kind() == 5) {
                greatest = Math.max(greatest, latencies[6]);
            } else if (first.kind() == 5 && then.kind() == 6) {
                greatest = Math.max(greatest, 0);
            } else if (first.kind() == 6) {
                greatest = Math.max(greatest, 1);
            }
        }
        return greatest;
    }

    private boolean mayBeAtOnePlace(int i, int j) {
        Instruction first = block.get(i);
        Instruction then = block.get(j);
        boolean sameBase = first.a() == then.a() && !writtenIn(first.a(), i, j);
        boolean differ = Math.floorMod((long) first.c(), 64L) != Math.floorMod((long) then.c(), 64L);
        return !(sameBase && differ);
    }

    private int dependences() {
        int many = 0;
        for (int j = 0; j < block.size(); j++) {
            for (int i = 0; i < j; i++) {
                many += depends(i, j) != NO ? 1 : 0;
            }
        }
        return many;
    }

    private int[] ways() {
        int[] ways = new int[block.size()];
        for (int i = block.size() - 1; i >= 0; i--) {
            ways[i] = latencyOf(i);
            for (int j = i + 1; j < block.size(); j++) {
                int delay = depends(i, j);
                ways[i] = delay == NO ? ways[i] : Math.max(ways[i], delay + ways[j]);
            }
        }
        return ways;
    }

    private int longestWay() {
        int longest = 0;
        for (int way : ways()) {
            longest = Math.max(longest, way);
        }
        return longest;
    }

    private int[] earlies() {
        int[] earlies = new int[block.size()];
        for (int j = 0; j < block.size(); j++) {
            while (!keepsDelays(j, earlies[j], earlies)) {
                earlies[j]++;
            }
        }
        return earlies;
    }

    private boolean keepsDelays(int j, int cycle, int[] cycles) {
        for (int i = 0; i < j; i++) {
            int delay = depends(i, j);
            if (delay != NO && (cycles[i] == NO || cycle < cycles[i] + delay)) {
                return false;
            }
        }
        return true;
    }

    private static int howManyIn(int cycle, int[] cycles) {
        int many = 0;
        for (int c : cycles) {
            many += c == cycle ? 1 : 0;
        }
        return many;
    }

    private int[] noCycles() {
        int[] cycles = new int[block.size()];
        Arrays.fill(cycles, NO);
        return cycles;
    }

    private int[] listPlan(List<Integer> order) {
        int[] cycles = noCycles();
        int[] ways = ways();
        for (int cycle = 0; order.size() < block.size(); cycle++) {
            while (howManyIn(cycle, cycles) < units) {
                int best = NO;
                for (int i = 0; i < block.size(); i++) {
                    boolean may = cycles[i] == NO && keepsDelays(i, cycle, cycles);
                    if (may && (best == NO || ways[i] > ways[best])) {
                        best = i;
                    }
                }
                if (best == NO) {
                    break;
                }
                cycles[best] = cycle;
                order.add(best);
            }
        }
        return cycles;
    }

    private List<Integer> listOrder() {
        List<Integer> order = new ArrayList<>();
        listPlan(order);
        return order;
    }

    private List<Integer> standing() {
        List<Integer> order = new ArrayList<>();
        for (int i = 0; i < block.size(); i++) {
            order.add(i);
        }
        return order;
    }

    private int[] inOrder(List<Integer> order) {
        int[] cycles = noCycles();
        int ahead = 0;
        for (int i : order) {
            int cycle = ahead;
            while (!keepsDelays(i, cycle, cycles) || howManyIn(cycle, cycles) >= units) {
                cycle++;
            }
            cycles[i] = cycle;
            ahead = cycle;
        }
        return cycles;
    }

    private int lengthOf(int[] cycles) {
        int length = 0;
        for (int i = 0; i < cycles.length; i++) {
            length = Math.max(length, cycles[i] + latencyOf(i));
        }
        return length;
    }

    private int shortest() {
        int length = longestWay();
        while (!fits(0, length, noCycles(), ways())) {
            length++;
        }
        return length;
    }

    /** Whether instructions from i on can be given cycles, so that the length is at most this one. */
    private boolean fits(int i, int length, int[] cycles, int[] ways) {
        if (i == block.size()) {
            return true;
        }
        for (int cycle = 0; cycle + ways[i] <= length; cycle++) {
            if (keepsDelays(i, cycle, cycles) && howManyIn(cycle, cycles) < units) {
                cycles[i] = cycle;
                if (fits(i + 1, length, cycles, ways)) {
                    return true;
                }
                cycles[i] = NO;
            }
        }
        return false;
    }

    private int[] ownCycles() {
        int[] cycles = new int[own.size()];
        for (int i = 0; i < cycles.length; i++) {
            cycles[i] = own.get(i);
        }
        return cycles;
    }

    private int[] judge() {
        int[] cycles = ownCycles();
        for (int i = 0; i < cycles.length; i++) {
            if (cycles[i] == NO) {
                return new int[] {1, i, NO};
            }
        }
        for (int j = 0; j < cycles.length; j++) {
            for (int i = 0; i < j; i++) {
                int delay = depends(i, j);
                if (delay != NO && cycles[j] < cycles[i] + delay) {
                    return new int[] {2, i, j};
                }
            }
        }
        for (int cycle = 0; cycle <= 1000; cycle++) {
            if (howManyIn(cycle, cycles) > units) {
                return new int[] {3, cycle, NO};
            }
        }
        return new int[] {0, NO, NO};
    }

    private void startAnew() {
        now = new int[][] {told[0].clone(), told[1].clone()};
    }

    private static int at(int address) {
        return (int) Math.floorMod((long) address, 64L);
    }

    private int outcome(Instruction x) {
        int[] r = now[0];
        return switch (x.kind()) {
            case 0 -> x.c();
            case 1 -> r[x.a()] + r[x.b()];
            case 2 -> r[x.a()] - r[x.b()];
            case 3 -> r[x.a()] * r[x.b()];
            case 4 -> r[x.a()] < r[x.b()] ? 1 : 0;
            case 5 -> now[1][at(r[x.a()] + x.c())];
            default -> r[x.b()];
        };
    }

    private void runAsItStands() {
        startAnew();
        for (Instruction x : block) {
            int result = outcome(x);
            if (x.kind() == 6) {
                now[1][at(now[0][x.a()] + x.c())] = result;
            } else {
                now[0][x.d()] = result;
            }
        }
    }

    private void runBy(int[] cycles) {
        startAnew();
        int[] results = new int[cycles.length];
        int[] places = new int[cycles.length];
        int end = lengthOf(cycles);
        for (int cycle = 0; cycle <= end; cycle++) {
            for (int i = 0; i < cycles.length; i++) {
                if (cycles[i] + latencyOf(i) == cycle) {
                    boolean store = block.get(i).kind() == 6;
                    now[store ? 1 : 0][places[i]] = results[i];
                }
            }
            for (int i = 0; i < cycles.length; i++) {
                if (cycles[i] == cycle) {
                    Instruction x = block.get(i);
                    results[i] = outcome(x);
                    places[i] = x.kind() == 6 ? at(now[0][x.a()] + x.c()) : x.d();
                }
            }
        }
    }
}
