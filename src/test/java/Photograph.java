import java.util.ArrayList;
import java.util.List;
import java.util.function.Consumer;
import java.util.function.ToIntFunction;

/**
 * All that can be asked of an object in some state. Many questions change what is asked, and an object is good for
 * 512 calls only, so that each group of questions is put to an object of its own that has come the same way.
 */
final class Photograph {
    private final List<List<ToIntFunction<BlockBench>>> groups = new ArrayList<>();

    Photograph(int instructions) {
        latestRunAndWhatWasTold();
        settings();
        abouts(instructions);
        delays(instructions);
        for (int how = 0; how <= 2; how++) {
            runAnew(how);
        }
        List<ToIntFunction<BlockBench>> places = newGroup();
        for (int i = 0; i < instructions; i++) {
            int number = i;
            places.add(x -> x.place(number, 0));
        }
    }

    /** What objects answer that come by this way. */
    List<Integer> take(Consumer<BlockBench> way) {
        List<Integer> answers = new ArrayList<>();
        for (List<ToIntFunction<BlockBench>> group : groups) {
            BlockBench x = new BlockBench();
            way.accept(x);
            for (ToIntFunction<BlockBench> question : group) {
                answers.add(question.applyAsInt(x));
            }
        }
        return answers;
    }

    private List<ToIntFunction<BlockBench>> newGroup() {
        List<ToIntFunction<BlockBench>> group = new ArrayList<>();
        groups.add(group);
        return group;
    }

    private void latestRunAndWhatWasTold() {
        List<ToIntFunction<BlockBench>> group = newGroup();
        group.add(x -> x.wrong(0));
        group.add(x -> x.wrong(1));
        values(group);
        for (int k = 0; k < 16; k++) {
            int place = k;
            group.add(x -> x.given(0, place, 0));
        }
        for (int k = 0; k < 64; k++) {
            int place = k;
            group.add(x -> x.given(1, place, 0));
        }
    }

    private static void values(List<ToIntFunction<BlockBench>> group) {
        for (int k = 0; k < 16; k++) {
            int place = k;
            group.add(x -> x.value(0, place));
        }
        for (int k = 0; k < 64; k++) {
            int place = k;
            group.add(x -> x.value(1, place));
        }
    }

    private void settings() {
        List<ToIntFunction<BlockBench>> group = newGroup();
        for (int what = 0; what <= 7; what++) {
            int which = what;
            group.add(x -> x.length(which));
        }
        group.add(x -> x.check());
        group.add(x -> x.wrong(0));
        group.add(x -> x.wrong(1));
        for (int kind = 0; kind <= 6; kind++) {
            int which = kind;
            group.add(x -> x.latency(which, 1));
        }
        group.add(x -> x.units(1));
        group.add(x -> x.add(0, 0, 0, 0, 0));
    }

    private void abouts(int instructions) {
        for (int what = 0; what <= 6; what++) {
            int which = what;
            List<ToIntFunction<BlockBench>> group = newGroup();
            for (int i = 0; i < instructions; i++) {
                int number = i;
                group.add(x -> x.about(number, which));
                group.add(x -> x.listed(number));
            }
        }
    }

    /** Some two hundred pairs for each object. */
    private void delays(int instructions) {
        List<ToIntFunction<BlockBench>> group = newGroup();
        for (int j = 0; j < instructions; j++) {
            for (int i = 0; i < j; i++) {
                int first = i;
                int then = j;
                group.add(x -> x.delay(first, then));
            }
            if (group.size() > 200) {
                group = newGroup();
            }
        }
    }

    private void runAnew(int how) {
        List<ToIntFunction<BlockBench>> group = newGroup();
        group.add(x -> x.run(how));
        values(group);
    }
}
