import com.sun.management.ThreadMXBean;
import java.lang.management.ManagementFactory;
import java.util.function.Consumer;

/** All calls of a run live in one room of 7.3 million fields and elements: the dearest calls, 512 of them, stay in it. */
public final class RoomTest {
    private static final String STONE = "AbAbAbA|b\\/#/\\b|AbAbAbA|b#::##b|AbAbAbA|b\\/#/\\b|AbAbAbA";
    private static final long ROOM_BYTES = 4L * 7_300_000L;
    private static final int CALLS = 512;

    public static void main(String[] args) {
        takes("digest", RuneBands::digest);
        takes("repair", RuneBands::repair);
        takes("fewest", RuneBands::fewest);
        takes("told", RuneBands::told);
        takes("read", stone -> stone.read(0, 0));
        takes("alike", stone -> stone.alike(0));
        takes("setCell", stone -> stone.setCell(0, 'a'));
        takes("turnStone", RuneBands::turnStone);
        takes("parse", RuneBands::parse);
        Check.end();
    }

    private static void takes(String name, Consumer<RuneBands> call) {
        call.accept(Stones.of(STONE, "a", "ab"));
        long before = allocated();
        RuneBands stone = Stones.of(STONE, "a", "ab");
        Stones.write(stone, STONE);
        for (int calls = 2 * STONE.length() + 10; calls <= CALLS; calls++) {
            call.accept(stone);
        }
        long bytes = allocated() - before;
        Check.holds("a run of " + name + "() takes " + bytes + " bytes", bytes < ROOM_BYTES);
    }

    private static long allocated() {
        ThreadMXBean threads = (ThreadMXBean) ManagementFactory.getThreadMXBean();
        return threads.getThreadAllocatedBytes(Thread.currentThread().getId());
    }
}
