import java.util.function.Supplier;
import java.util.function.ToIntFunction;

/** A map that can be made again and again, to be seen as a whole behind a call and without it. */
final class Scene {
    private static final int MOST_STATES = 5;
    private final String name;
    private final Supplier<TitheGrid> maker;
    private final int[][] seen = new int[MOST_STATES + 1][];

    Scene(String name, Supplier<TitheGrid> maker) {
        this.name = name;
        this.maker = maker;
        for (int undos = 0; undos <= MOST_STATES; undos++) {
            seen[undos] = seenBehind(grid -> 0, undos);
        }
    }

    /** The call answers what is due, and the map and each state of its history are what they were without it. */
    void dueWithoutChange(Answers answers, String call, int want, ToIntFunction<TitheGrid> called) {
        answers.due(name + ": " + call, want, called.applyAsInt(maker.get()));
        for (int undos = 0; undos <= MOST_STATES; undos++) {
            int[] behind = seenBehind(called, undos);
            for (int index = 0; index < behind.length; index++) {
                if (behind[index] != seen[undos][index]) {
                    answers.due(name + ": behind " + call + " and " + undos + " undos, " + Question.ALL.get(index).call(),
                        seen[undos][index], behind[index]);
                    return;
                }
            }
        }
    }

    /** A call that only looks, whatever it answers. */
    void dueUnchanged(Answers answers, String call, ToIntFunction<TitheGrid> called) {
        dueWithoutChange(answers, call, called.applyAsInt(maker.get()), called);
    }

    private int[] seenBehind(ToIntFunction<TitheGrid> called, int undos) {
        return Question.answers(() -> {
            TitheGrid grid = maker.get();
            called.applyAsInt(grid);
            for (int undo = 0; undo < undos; undo++) {
                grid.undo();
            }
            return Looking.into(grid);
        });
    }
}
