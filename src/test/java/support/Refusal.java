import java.util.function.Consumer;
import java.util.function.Supplier;

/**
 * Refused calls: the very exception that is due, and that nothing is changed. A digest tells of a text only how long it
 * is, and of the saved states only how many there are; so the object is taken apart, beside a twin without that call.
 */
final class Refusal {
    private static final Class<?> INDEX = IndexOutOfBoundsException.class;
    private static final Class<?> ARGUMENT = IllegalArgumentException.class;
    private static final Class<?> STATE = IllegalStateException.class;

    private Refusal() {
    }

    /** Three saved states, a list of two words, a text that is a stone. Its own stone is 3 by 2. */
    static RuneBands light() {
        RuneBands stone = Stones.of("aB#|:/c", "ab", "c");
        Stones.write(stone, "de.|..F");
        return stone;
    }

    /** Four saved states, so that one more would push the oldest out, a full list, a text that is a word. 3 by 2 again. */
    static RuneBands heavy() {
        RuneBands stone = Stones.of("a.b|\\#C", "a", "b", "abcdefgh", "cc", "ac", "ca", "bb", "ba");
        Stones.write(stone, "zyx");
        return stone;
    }

    static void index(Consumer<RuneBands> call) {
        byEach(INDEX, call);
    }

    static void argument(Consumer<RuneBands> call) {
        byEach(ARGUMENT, call);
    }

    static void index(Supplier<RuneBands> made, Consumer<RuneBands> call) {
        due(INDEX, made, call);
    }

    static void argument(Supplier<RuneBands> made, Consumer<RuneBands> call) {
        due(ARGUMENT, made, call);
    }

    static void state(Supplier<RuneBands> made, Consumer<RuneBands> call) {
        due(STATE, made, call);
    }

    private static void byEach(Class<?> due, Consumer<RuneBands> call) {
        due(due, Refusal::light, call);
        due(due, Refusal::heavy, call);
    }

    private static void due(Class<?> due, Supplier<RuneBands> made, Consumer<RuneBands> call) {
        RuneBands stone = made.get();
        Check.sameText("the exception", Check.thrown(() -> call.accept(stone)), due.getName());
        Check.sameText("the object behind it", whole(stone), whole(made.get()));
    }

    /** All that an object holds; it is taken apart by this. */
    static String whole(RuneBands stone) {
        StringBuilder told = new StringBuilder(Stones.cells(stone));
        told.append(", list ").append(Stones.words(stone)).append(", digest ").append(stone.digest());
        told.append(", told ").append(stone.told()).append(", repair ").append(stone.repair());
        for (int times = 0; times < 5; times++) {
            told.append(", undo ").append(Check.thrown(stone::undo)).append(' ').append(stone.digest());
        }
        told.append(", parse ").append(stone.parse()).append(' ').append(stone.digest());
        told.append(", addWord ").append(Check.thrown(stone::addWord)).append(' ').append(Stones.words(stone));
        return told.append(", text ").append(stone.clearText()).toString();
    }
}
