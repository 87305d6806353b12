import com.sun.management.ThreadMXBean;
import java.lang.management.ManagementFactory;

/** All calls of a run live in one room: an object is small, and its calls leave nothing behind in memory. */
public final class RoomTest {
    private static final String STONE = "AbAbAbA|b\\/#/\\b|AbAbAbA|b#::##b|AbAbAbA|b\\/#/\\b|AbAbAbA";
    private static final long OBJECT_BYTES = 40_000;
    private static final long CALL_BYTES = 4_000;

    public static void main(String[] args) {
        round(new RuneBands());
        long empty = allocated();
        RuneBands stone = new RuneBands();
        long made = allocated();
        for (int times = 0; times < 12; times++) {
            round(stone);
        }
        long used = allocated();
        Check.holds("an object takes " + (made - empty) + " bytes", made - empty < OBJECT_BYTES);
        Check.holds("its calls take " + (used - made) + " bytes", used - made < CALL_BYTES);
        Check.end();
    }

    private static long allocated() {
        ThreadMXBean threads = (ThreadMXBean) ManagementFactory.getThreadMXBean();
        return threads.getThreadAllocatedBytes(Thread.currentThread().getId());
    }

    private static void round(RuneBands stone) {
        stone.clearText();
        for (int index = 0; index < STONE.length(); index++) {
            stone.append(STONE.charAt(index));
        }
        stone.parse();
        stone.clearText();
        stone.append('a');
        stone.addWord();
        stone.turnStone();
        stone.turnCorners();
        stone.setCell(24, '#');
        stone.cell(3, 1);
        stone.value(8);
        stone.word(0, 0);
        stone.band(3, 6);
        stone.cellOf(3, 0);
        stone.read(3, 4);
        stone.wordsOf(5);
        stone.alike(6);
        stone.choices(50);
        stone.nodes(50);
        stone.chosen(0);
        stone.fewest();
        stone.repair();
        stone.told();
        stone.digest();
        stone.removeWord(0);
        stone.undo();
        stone.removeWord(0);
        stone.setSize(4, 4);
    }
}
