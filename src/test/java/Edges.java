import java.util.IdentityHashMap;
import java.util.List;
import java.util.Map;
import java.util.function.Supplier;
import java.util.function.ToIntFunction;

/** Runs one test for each sentence of the document that names a boundary case. */
final class Edges {
    static final int LEAST = Integer.MIN_VALUE;
    static final int GREATEST = Integer.MAX_VALUE;

    final Due due = new Due();
    private final Map<Supplier<BoardDesk>, List<String>> states = new IdentityHashMap<>();

    /**
     * A wrong answer is told with the sentence. No call of the document throws, so what is thrown
     * is wrong too; and so is a test that asks nothing.
     */
    void holds(String sentence, Runnable test) {
        due.about(sentence);
        int before = due.askedAnswers();
        try {
            test.run();
        } catch (RuntimeException thrown) {
            due.same("thrown", thrown.toString(), "nothing");
        }
        due.yes("something was asked", due.askedAnswers() > before);
    }

    /** A call answers so, and everything is as it was before. */
    void leaves(String told, Supplier<BoardDesk> maker, ToIntFunction<BoardDesk> call, int want) {
        due.same(told, call.applyAsInt(maker.get()), want);
        sameLines(told, State.of(after(maker, call)), stateOf(maker));
    }

    /**
     * A call answers so and is one change, which undo takes back as if it had never been. The desk
     * has 15 changes at most: so none is lost by this one.
     */
    void changes(String told, Supplier<BoardDesk> maker, ToIntFunction<BoardDesk> call, int want) {
        due.same(told, call.applyAsInt(maker.get()), want);
        Supplier<BoardDesk> changed = after(maker, call);
        due.yes(told + " changes something",
                !State.withoutHistory(changed).equals(State.withoutHistory(maker)));
        sameLines(told + ", taken back", State.of(after(changed, BoardDesk::undo)), stateOf(maker));
    }

    private static Supplier<BoardDesk> after(
            Supplier<BoardDesk> maker, ToIntFunction<BoardDesk> call) {
        return () -> {
            BoardDesk desk = maker.get();
            call.applyAsInt(desk);
            return desk;
        };
    }

    private List<String> stateOf(Supplier<BoardDesk> maker) {
        return states.computeIfAbsent(maker, State::of);
    }

    private void sameLines(String told, List<String> got, List<String> want) {
        due.same(told + ": lines", got.size(), want.size());
        for (int i = 0; i < got.size() && i < want.size(); i++) {
            due.same(told, got.get(i), want.get(i));
        }
    }

    static int told(boolean answer) {
        return answer ? 1 : 0;
    }

    void finish() {
        due.finish();
    }
}
