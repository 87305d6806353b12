import java.util.Arrays;

/** A stone with runes and the bands that run through it, as ../shared/DOC.md promises. */
public final class RuneBands {
    public static final int NONE = -1;

    private static final int MIN_SIDE = 2;
    private static final int MAX_SIDE = 7;
    private static final int FIRST_SIDE = 4;
    private static final int MAX_CELLS = MAX_SIDE * MAX_SIDE;
    private static final int MAX_GATES = 4 * MAX_SIDE;
    /** Two lines at most meet in a cell, and a band runs along each of them once. */
    private static final int MAX_LENGTH = 2 * MAX_CELLS;
    /** A shared rune gives most bytes: its letter, a gap, its letter again. */
    private static final int MAX_READING = 3 * MAX_LENGTH;
    private static final int MAX_WORDS = 8;
    private static final int MAX_LETTERS = 8;
    private static final int MAX_TEXT = 60;
    private static final int MAX_BYTE = 127;
    private static final int MAX_SAVED = 4;
    private static final int MAX_NODES = 2000;
    private static final int MAX_CHOICES = 50;
    private static final int DIGEST_START = 3499;
    private static final int DIGEST_FACTOR = 31;
    private static final int DIGEST_CHOICES = 3;

    private static final int LAST_CELL_FACT = 4;
    private static final int LAST_NUMBER = 9;
    private static final int LAST_BAND_FACT = 6;

    private static final int EMPTY = '.';
    private static final int RISING = '/';
    private static final int FALLING = '\\';
    private static final int BROKEN = '#';
    private static final int STOP = ':';
    private static final int ROW_END = '|';
    private static final int GAP = ' ';

    private static final int UP = 0;
    private static final int RIGHT = 1;
    private static final int DOWN = 2;
    private static final int LEFT = 3;

    private final Stone stone;
    private final Words words;
    private final History history;
    private final Bands bands;
    private final Search search;
    private final Reading reading;
    private final Reading otherReading;
    private final Text text;

    public RuneBands() {
        stone = new Stone();
        words = new Words();
        history = new History();
        bands = new Bands();
        search = new Search();
        reading = new Reading();
        otherReading = new Reading();
        text = new Text();
        bands.trace(stone);
    }

    // ---- stone

    public int setSize(int width, int height) throws IllegalArgumentException {
        if (!isSide(width) || !isSide(height)) {
            throw new IllegalArgumentException("a side is out of range");
        }
        saveState();
        stone.clear(width, height);
        bands.trace(stone);
        return stone.gateCount();
    }

    public int setCell(int cell, int value) throws IndexOutOfBoundsException, IllegalArgumentException {
        if (!stone.hasCell(cell)) {
            throw new IndexOutOfBoundsException("no such cell");
        }
        if (!isCellByte(value)) {
            throw new IllegalArgumentException("not the byte of a cell");
        }
        saveState();
        int previous = stone.byteAt(cell);
        stone.putByte(cell, value);
        bands.trace(stone);
        return previous;
    }

    public int turnCorners() {
        saveState();
        stone.turnEachCorner();
        bands.trace(stone);
        return stone.countCorners();
    }

    public int turnStone() {
        saveState();
        stone.turnRight();
        bands.trace(stone);
        return stone.gateCount();
    }

    public int addWord() throws IllegalStateException {
        if (!text.isWord() || words.isFull() || words.find(text.bytes, 0, text.length) != NONE) {
            throw new IllegalStateException("the text is no word that can be added");
        }
        saveState();
        return words.add(text.bytes, text.length);
    }

    public int removeWord(int word) throws IndexOutOfBoundsException {
        if (!words.has(word)) {
            throw new IndexOutOfBoundsException("no such word");
        }
        saveState();
        words.remove(word);
        return words.count;
    }

    public int cell(int cell, int what) throws IndexOutOfBoundsException, IllegalArgumentException {
        if (!stone.hasCell(cell)) {
            throw new IndexOutOfBoundsException("no such cell");
        }
        if (!isWithin(what, 0, LAST_CELL_FACT)) {
            throw new IllegalArgumentException("nothing is told by this number");
        }
        return cellFact(cell, what);
    }

    public int value(int what) throws IllegalArgumentException {
        if (!isWithin(what, 0, LAST_NUMBER)) {
            throw new IllegalArgumentException("nothing is told by this number");
        }
        return numberOf(what);
    }

    public int word(int word, int index) throws IndexOutOfBoundsException {
        if (!words.has(word) || index < 0) {
            throw new IndexOutOfBoundsException("no such word or letter");
        }
        return words.letterAt(word, index);
    }

    // ---- bands

    public int band(int gate, int what) throws IndexOutOfBoundsException, IllegalArgumentException {
        if (!stone.hasGate(gate)) {
            throw new IndexOutOfBoundsException("no such gate");
        }
        if (!isWithin(what, 0, LAST_BAND_FACT)) {
            throw new IllegalArgumentException("nothing is told by this number");
        }
        return bandFact(gate, what);
    }

    public int cellOf(int gate, int index) throws IndexOutOfBoundsException {
        if (!stone.hasGate(gate) || index < 0 || index >= bands.lengthOf(gate)) {
            throw new IndexOutOfBoundsException("no such gate, or the band is shorter");
        }
        return bands.cellAt(gate, index);
    }

    public int read(int gate, int index) throws IndexOutOfBoundsException {
        if (!stone.hasGate(gate) || index < 0) {
            throw new IndexOutOfBoundsException("no such gate or byte");
        }
        reading.take(stone, bands, gate);
        return reading.byteAt(index);
    }

    public int wordsOf(int gate) throws IndexOutOfBoundsException {
        if (!stone.hasGate(gate)) {
            throw new IndexOutOfBoundsException("no such gate");
        }
        return scoreOf(gate);
    }

    public boolean alike(int gate) throws IndexOutOfBoundsException {
        if (!stone.hasGate(gate)) {
            throw new IndexOutOfBoundsException("no such gate");
        }
        int end = bands.endOf(gate);
        if (end == NONE) {
            return false;
        }
        reading.take(stone, bands, gate);
        otherReading.take(stone, bands, end);
        return reading.hasBytesOf(otherReading);
    }

    // ---- choices

    public int choices(int most) throws IllegalArgumentException {
        if (!isWithin(most, 1, MAX_CHOICES)) {
            throw new IllegalArgumentException("so many choices cannot be asked for");
        }
        search.run(stone, bands, most);
        return search.found;
    }

    public int nodes(int most) throws IllegalArgumentException {
        if (!isWithin(most, 1, MAX_CHOICES)) {
            throw new IllegalArgumentException("so many choices cannot be asked for");
        }
        search.run(stone, bands, most);
        return search.stopped ? -MAX_NODES : search.looked;
    }

    public int chosen(int index) throws IndexOutOfBoundsException {
        if (index < 0) {
            throw new IndexOutOfBoundsException("an index is not negative");
        }
        search.run(stone, bands, 1);
        return search.firstBandAt(index);
    }

    public int fewest() {
        search.run(stone, bands, MAX_CHOICES);
        return search.smallest;
    }

    public int repair() {
        int answer = NONE;
        for (int cell = 0; cell < stone.cellCount() && answer == NONE; cell++) {
            if (stone.byteAt(cell) == BROKEN) {
                answer = repairOf(cell);
            }
        }
        bands.trace(stone);
        return answer;
    }

    public double told() {
        long runes = stone.runeMask();
        if (runes == 0L) {
            return 1.0;
        }
        long good = 0L;
        for (int gate = 0; gate < stone.gateCount(); gate++) {
            if (scoreOf(gate) >= 0) {
                good |= bands.maskOf(gate);
            }
        }
        return (double) Long.bitCount(good & runes) / (double) Long.bitCount(runes);
    }

    // ---- text

    public int append(int value) throws IllegalArgumentException, IllegalStateException {
        if (!isWithin(value, 0, MAX_BYTE)) {
            throw new IllegalArgumentException("not a byte of a text");
        }
        if (text.isFull()) {
            throw new IllegalStateException("the text is full");
        }
        text.add(value);
        return text.length;
    }

    public int clearText() {
        int before = text.length;
        text.length = 0;
        return before;
    }

    public int parse() {
        int error = text.errorPosition();
        if (error != NONE) {
            return -10 - error;
        }
        saveState();
        text.carve(stone);
        bands.trace(stone);
        return stone.countRunes();
    }

    // ---- state

    public int undo() throws IllegalStateException {
        if (history.count == 0) {
            throw new IllegalStateException("no state is saved");
        }
        history.restore(stone, words);
        bands.trace(stone);
        return history.count;
    }

    public long digest() {
        long hash = mix(DIGEST_START, text.length);
        for (int what = 0; what <= LAST_NUMBER; what++) {
            hash = mix(hash, numberOf(what));
        }
        hash = mixCells(hash);
        hash = mixBands(hash);
        hash = words.mixLetters(hash);
        search.run(stone, bands, DIGEST_CHOICES);
        hash = mix(hash, search.found);
        return mix(hash, history.count);
    }

    // ---- behind the face

    private void saveState() {
        history.save(stone, words);
    }

    private int cellFact(int cell, int what) {
        switch (what) {
            case 0: return stone.byteAt(cell);
            case 1: return bands.bandInRow(cell);
            case 2: return bands.bandInColumn(cell);
            case 3: return bands.entriesInto(cell);
            default: return letterOf(stone.byteAt(cell));
        }
    }

    private int numberOf(int what) {
        switch (what) {
            case 0: return stone.width;
            case 1: return stone.height;
            case 2: return stone.countRunes();
            case 3: return stone.countSharedRunes();
            case 4: return stone.countCorners();
            case 5: return stone.countBrokenCorners();
            case 6: return stone.gateCount();
            case 7: return bands.count;
            case 8: return bands.crossing;
            default: return words.count;
        }
    }

    private int bandFact(int gate, int what) {
        switch (what) {
            case 0: return bands.bandFrom(gate);
            case 1: return bands.endOf(gate);
            case 2: return bands.cellAt(gate, bands.lengthOf(gate) - 1);
            case 3: return bands.lengthOf(gate);
            case 4: return bands.turnsOf(gate);
            case 5: return bands.runesOn(gate);
            default: return bands.crossesItself(gate) ? 1 : 0;
        }
    }

    private int scoreOf(int gate) {
        reading.take(stone, bands, gate);
        return reading.score(words);
    }

    /** Leaves the bands of the last trial behind: the caller traces them again. */
    private int repairOf(int cell) {
        int answer = NONE;
        if (hasChoiceWith(cell, RISING)) {
            answer = 2 * cell;
        } else if (hasChoiceWith(cell, FALLING)) {
            answer = 2 * cell + 1;
        }
        stone.putByte(cell, BROKEN);
        return answer;
    }

    private boolean hasChoiceWith(int cell, int corner) {
        stone.putByte(cell, corner);
        bands.trace(stone);
        search.run(stone, bands, 1);
        return search.found > 0;
    }

    private long mixCells(long start) {
        long hash = start;
        for (int cell = 0; cell < stone.cellCount(); cell++) {
            for (int what = 0; what <= LAST_CELL_FACT; what++) {
                hash = mix(hash, cellFact(cell, what));
            }
        }
        return hash;
    }

    private long mixBands(long start) {
        long hash = start;
        for (int gate = 0; gate < stone.gateCount(); gate++) {
            for (int what = 0; what <= LAST_BAND_FACT; what++) {
                hash = mix(hash, bandFact(gate, what));
            }
            reading.take(stone, bands, gate);
            for (int index = 0; index < reading.length; index++) {
                hash = mix(hash, reading.byteAt(index));
            }
            hash = mix(hash, reading.score(words));
        }
        return hash;
    }

    private static long mix(long hash, long next) {
        return DIGEST_FACTOR * hash + next;
    }

    private static boolean isWithin(int number, int least, int most) {
        return number >= least && number <= most;
    }

    private static boolean isSide(int number) {
        return isWithin(number, MIN_SIDE, MAX_SIDE);
    }

    private static boolean isLetter(int value) {
        return value >= 'a' && value <= 'z';
    }

    private static boolean isSharedRune(int value) {
        return value >= 'A' && value <= 'Z';
    }

    private static boolean isRune(int value) {
        return isLetter(value) || isSharedRune(value);
    }

    private static boolean isCorner(int value) {
        return value == RISING || value == FALLING;
    }

    private static boolean isCellByte(int value) {
        return isRune(value) || isCorner(value) || value == EMPTY || value == BROKEN || value == STOP;
    }

    private static int letterOf(int value) {
        if (isLetter(value)) {
            return value - 'a';
        }
        return isSharedRune(value) ? value - 'A' : NONE;
    }

    private static int turnedCorner(int value) {
        if (value == RISING) {
            return FALLING;
        }
        return value == FALLING ? RISING : value;
    }

    private static int at(int[] row, int index) {
        return index >= 0 && index < row.length ? row[index] : 0;
    }

    private static long at(long[] row, int index) {
        return index >= 0 && index < row.length ? row[index] : 0L;
    }

    private static void put(int[] row, int index, int value) {
        if (index >= 0 && index < row.length) {
            row[index] = value;
        }
    }

    private static void put(long[] row, int index, long value) {
        if (index >= 0 && index < row.length) {
            row[index] = value;
        }
    }

    private static void copy(int[] from, int[] to) {
        for (int index = 0; index < from.length && index < to.length; index++) {
            to[index] = from[index];
        }
    }

    /** The cells, row by row. */
    private static final class Stone {
        private int width;
        private int height;
        private final int[] cells = new int[MAX_CELLS];
        private final int[] turned = new int[MAX_CELLS];

        Stone() {
            clear(FIRST_SIDE, FIRST_SIDE);
        }

        void clear(int newWidth, int newHeight) {
            width = newWidth;
            height = newHeight;
            Arrays.fill(cells, EMPTY);
        }

        void takeFrom(Stone other) {
            width = other.width;
            height = other.height;
            copy(other.cells, cells);
        }

        int cellCount() {
            return width * height;
        }

        int gateCount() {
            return 2 * (width + height);
        }

        boolean hasCell(int cell) {
            return cell >= 0 && cell < cellCount();
        }

        boolean hasGate(int gate) {
            return gate >= 0 && gate < gateCount();
        }

        int byteAt(int cell) {
            return at(cells, cell);
        }

        void putByte(int cell, int value) {
            put(cells, cell, value);
        }

        void turnEachCorner() {
            for (int cell = 0; cell < cellCount(); cell++) {
                putByte(cell, turnedCorner(byteAt(cell)));
            }
        }

        void turnRight() {
            for (int row = 0; row < height; row++) {
                for (int column = 0; column < width; column++) {
                    int value = byteAt(row * width + column);
                    put(turned, column * height + height - 1 - row, turnedCorner(value));
                }
            }
            int oldWidth = width;
            width = height;
            height = oldWidth;
            copy(turned, cells);
        }

        long runeMask() {
            long mask = 0L;
            for (int cell = 0; cell < cellCount(); cell++) {
                if (isRune(byteAt(cell))) {
                    mask |= 1L << cell;
                }
            }
            return mask;
        }

        int countRunes() {
            return Long.bitCount(runeMask());
        }

        int countSharedRunes() {
            int count = 0;
            for (int cell = 0; cell < cellCount(); cell++) {
                count += isSharedRune(byteAt(cell)) ? 1 : 0;
            }
            return count;
        }

        int countCorners() {
            int count = 0;
            for (int cell = 0; cell < cellCount(); cell++) {
                count += isCorner(byteAt(cell)) ? 1 : 0;
            }
            return count;
        }

        int countBrokenCorners() {
            int count = 0;
            for (int cell = 0; cell < cellCount(); cell++) {
                count += byteAt(cell) == BROKEN ? 1 : 0;
            }
            return count;
        }
    }

    /** The list of words. */
    private static final class Words {
        private int count;
        private final int[] lengths = new int[MAX_WORDS];
        private final int[] letters = new int[MAX_WORDS * MAX_LETTERS];

        void takeFrom(Words other) {
            count = other.count;
            copy(other.lengths, lengths);
            copy(other.letters, letters);
        }

        boolean has(int word) {
            return word >= 0 && word < count;
        }

        boolean isFull() {
            return count >= MAX_WORDS;
        }

        int letterAt(int word, int index) {
            return index < at(lengths, word) ? byteAt(word, index) - 'a' : NONE;
        }

        private int byteAt(int word, int index) {
            return at(letters, word * MAX_LETTERS + index);
        }

        int add(int[] bytes, int length) {
            int word = count;
            for (int index = 0; index < length && index < MAX_LETTERS; index++) {
                put(letters, word * MAX_LETTERS + index, at(bytes, index));
            }
            put(lengths, word, length);
            count++;
            return word;
        }

        void remove(int word) {
            for (int next = word + 1; next < count; next++) {
                for (int index = 0; index < MAX_LETTERS; index++) {
                    put(letters, (next - 1) * MAX_LETTERS + index, byteAt(next, index));
                }
                put(lengths, next - 1, at(lengths, next));
            }
            count--;
        }

        /** The number of the word that stands at a place among bytes, or NONE. */
        int find(int[] bytes, int start, int length) {
            for (int word = 0; word < count; word++) {
                if (at(lengths, word) == length && stands(word, bytes, start)) {
                    return word;
                }
            }
            return NONE;
        }

        private boolean stands(int word, int[] bytes, int start) {
            int length = at(lengths, word);
            for (int index = 0; index < length; index++) {
                if (byteAt(word, index) != at(bytes, start + index)) {
                    return false;
                }
            }
            return true;
        }

        long mixLetters(long start) {
            long hash = start;
            for (int word = 0; word < count; word++) {
                int length = at(lengths, word);
                for (int index = 0; index < length; index++) {
                    hash = mix(hash, letterAt(word, index));
                }
            }
            return hash;
        }
    }

    /** The states that undo goes back to; when all places are taken, the next takes the oldest's. */
    private static final class History {
        private final Stone[] stones = new Stone[MAX_SAVED];
        private final Words[] lists = new Words[MAX_SAVED];
        private int count;
        private int next;

        History() {
            for (int place = 0; place < stones.length && place < lists.length; place++) {
                stones[place] = new Stone();
                lists[place] = new Words();
            }
        }

        void save(Stone stone, Words words) {
            Stone savedStone = stoneAt(next);
            Words savedWords = wordsAt(next);
            if (savedStone != null && savedWords != null) {
                savedStone.takeFrom(stone);
                savedWords.takeFrom(words);
            }
            next = (next + 1) % MAX_SAVED;
            count = Math.min(count + 1, MAX_SAVED);
        }

        void restore(Stone stone, Words words) {
            next = (next + MAX_SAVED - 1) % MAX_SAVED;
            count = Math.max(count - 1, 0);
            Stone savedStone = stoneAt(next);
            Words savedWords = wordsAt(next);
            if (savedStone != null && savedWords != null) {
                stone.takeFrom(savedStone);
                words.takeFrom(savedWords);
            }
        }

        private Stone stoneAt(int place) {
            return place >= 0 && place < stones.length ? stones[place] : null;
        }

        private Words wordsAt(int place) {
            return place >= 0 && place < lists.length ? lists[place] : null;
        }
    }

    /** A place on a band, with the direction in which the band comes there. */
    private static final class Cursor {
        private int row;
        private int column;
        private int direction;

        void enter(Stone stone, int gate) {
            int width = stone.width;
            int height = stone.height;
            if (gate < width) {
                stand(0, gate, DOWN);
            } else if (gate < width + height) {
                stand(gate - width, width - 1, LEFT);
            } else if (gate < 2 * width + height) {
                stand(height - 1, gate - width - height, UP);
            } else {
                stand(gate - 2 * width - height, 0, RIGHT);
            }
        }

        private void stand(int newRow, int newColumn, int newDirection) {
            row = newRow;
            column = newColumn;
            direction = newDirection;
        }

        int cellOn(Stone stone) {
            return row * stone.width + column;
        }

        void goOn(int value) {
            direction = directionBehind(value);
            switch (direction) {
                case UP: row--; break;
                case RIGHT: column++; break;
                case DOWN: row++; break;
                default: column--; break;
            }
        }

        private int directionBehind(int value) {
            if (value == RISING) {
                return direction == UP ? RIGHT : direction == RIGHT ? UP : direction == DOWN ? LEFT : DOWN;
            }
            if (value == FALLING) {
                return direction == UP ? LEFT : direction == LEFT ? UP : direction == DOWN ? RIGHT : DOWN;
            }
            return direction;
        }

        /** The gate through which the band has left the stone, NONE if it is still inside. */
        int gateBehind(Stone stone) {
            int width = stone.width;
            int height = stone.height;
            if (row < 0) {
                return column;
            }
            if (column >= width) {
                return width + row;
            }
            if (row >= height) {
                return width + height + column;
            }
            return column < 0 ? 2 * width + height + row : NONE;
        }
    }

    /** What the bands of a stone are like, by the gates from which they are followed. */
    private static final class Bands {
        private final Cursor cursor = new Cursor();
        private final int[] ends = new int[MAX_GATES];
        private final int[] lengths = new int[MAX_GATES];
        private final int[] turns = new int[MAX_GATES];
        private final int[] runes = new int[MAX_GATES];
        private final long[] once = new long[MAX_GATES];
        private final long[] twice = new long[MAX_GATES];
        private final int[] paths = new int[MAX_GATES * MAX_LENGTH];
        private final int[] rowBands = new int[MAX_CELLS];
        private final int[] columnBands = new int[MAX_CELLS];
        private final int[] entries = new int[MAX_CELLS];
        private int count;
        private int crossing;

        void trace(Stone stone) {
            forget();
            for (int gate = 0; gate < stone.gateCount(); gate++) {
                follow(stone, gate);
                if (bandFrom(gate) == gate) {
                    countBand(stone, gate);
                }
            }
        }

        private void forget() {
            Arrays.fill(ends, NONE);
            Arrays.fill(lengths, 0);
            Arrays.fill(turns, 0);
            Arrays.fill(runes, 0);
            Arrays.fill(once, 0L);
            Arrays.fill(twice, 0L);
            Arrays.fill(rowBands, NONE);
            Arrays.fill(columnBands, NONE);
            Arrays.fill(entries, 0);
            count = 0;
            crossing = 0;
        }

        private void follow(Stone stone, int gate) {
            cursor.enter(stone, gate);
            for (int index = 0; index < MAX_LENGTH; index++) {
                int cell = cursor.cellOn(stone);
                int value = stone.byteAt(cell);
                note(gate, cell, value);
                if (value == BROKEN) {
                    return;
                }
                cursor.goOn(value);
                int end = cursor.gateBehind(stone);
                if (end != NONE) {
                    put(ends, gate, end);
                    return;
                }
            }
        }

        private void note(int gate, int cell, int value) {
            int length = at(lengths, gate);
            put(paths, gate * MAX_LENGTH + length, cell);
            put(lengths, gate, length + 1);
            put(turns, gate, at(turns, gate) + (isCorner(value) ? 1 : 0));
            put(runes, gate, at(runes, gate) + (isRune(value) ? 1 : 0));
            long mask = at(once, gate);
            long bit = 1L << cell;
            put(twice, gate, at(twice, gate) | (mask & bit));
            put(once, gate, mask | bit);
        }

        /** Goes the way once more: only at its end is it known whose number the band has. */
        private void countBand(Stone stone, int gate) {
            count++;
            crossing += crossesItself(gate) ? 1 : 0;
            cursor.enter(stone, gate);
            for (int index = 0; index < lengthOf(gate); index++) {
                int cell = cellAt(gate, index);
                boolean inRow = cursor.direction == LEFT || cursor.direction == RIGHT;
                noteEntry(inRow ? rowBands : columnBands, cell, gate);
                cursor.goOn(stone.byteAt(cell));
            }
        }

        /** Gates come in ascending order: the band that is first there is the lowest. */
        private void noteEntry(int[] lowest, int cell, int gate) {
            if (at(lowest, cell) == NONE) {
                put(lowest, cell, gate);
            }
            put(entries, cell, at(entries, cell) + 1);
        }

        int bandFrom(int gate) {
            int end = at(ends, gate);
            return end == NONE ? gate : Math.min(gate, end);
        }

        int endOf(int gate) {
            return at(ends, gate);
        }

        int lengthOf(int gate) {
            return at(lengths, gate);
        }

        int turnsOf(int gate) {
            return at(turns, gate);
        }

        int runesOn(int gate) {
            return at(runes, gate);
        }

        boolean crossesItself(int gate) {
            return at(twice, gate) != 0L;
        }

        /** The cells that the band enters, a bit for each. */
        long maskOf(int gate) {
            return at(once, gate);
        }

        int cellAt(int gate, int index) {
            return at(paths, gate * MAX_LENGTH + index);
        }

        int bandInRow(int cell) {
            return at(rowBands, cell);
        }

        int bandInColumn(int cell) {
            return at(columnBands, cell);
        }

        int entriesInto(int cell) {
            return at(entries, cell);
        }
    }

    /** The bytes that a band gives from one of its gates: its words, with one space between each two of them. */
    private static final class Reading {
        private final int[] bytes = new int[MAX_READING];
        private int length;
        private boolean gapBefore;

        void take(Stone stone, Bands bands, int gate) {
            length = 0;
            gapBefore = false;
            for (int index = 0; index < bands.lengthOf(gate); index++) {
                takeCell(stone.byteAt(bands.cellAt(gate, index)));
            }
        }

        private void takeCell(int value) {
            if (isLetter(value)) {
                addLetter(value);
            } else if (isSharedRune(value)) {
                int letter = value - 'A' + 'a';
                addLetter(letter);
                gapBefore = true;
                addLetter(letter);
            } else if (value == STOP) {
                gapBefore = true;
            }
        }

        /** A gap's space comes only with the letter behind it: a gap that has no word on one side is not between words. */
        private void addLetter(int letter) {
            if (gapBefore && length > 0) {
                add(GAP);
            }
            gapBefore = false;
            add(letter);
        }

        private void add(int value) {
            put(bytes, length, value);
            length++;
        }

        int byteAt(int index) {
            return index < length ? at(bytes, index) : NONE;
        }

        boolean hasBytesOf(Reading other) {
            if (length != other.length) {
                return false;
            }
            for (int index = 0; index < length; index++) {
                if (byteAt(index) != other.byteAt(index)) {
                    return false;
                }
            }
            return true;
        }

        /** The number of its words in the list, -1 minus it if the reading is not good. */
        int score(Words list) {
            int words = 0;
            int listed = 0;
            int start = 0;
            for (int index = 0; index <= length; index++) {
                if (index == length || at(bytes, index) == GAP) {
                    if (index > start) {
                        words++;
                        listed += list.find(bytes, start, index - start) != NONE ? 1 : 0;
                    }
                    start = index + 1;
                }
            }
            return words > 0 && listed == words ? listed : -1 - listed;
        }
    }

    /** The search for choices. */
    private static final class Search {
        private final long[] runesOf = new long[MAX_GATES];
        private final int[] lowerBands = new int[MAX_CELLS];
        private final int[] higherBands = new int[MAX_CELLS];
        private final int[] picked = new int[MAX_GATES];
        private final int[] first = new int[MAX_GATES];
        private long allRunes;
        private int most;
        private int looked;
        private int found;
        private int firstSize;
        private int smallest;
        private boolean stopped;

        void run(Stone stone, Bands bands, int mostChoices) {
            allRunes = stone.runeMask();
            most = mostChoices;
            looked = 0;
            found = 0;
            firstSize = 0;
            smallest = NONE;
            stopped = false;
            takeBands(bands);
            pairBands(bands);
            look(this, 0, 0L);
        }

        /** A band that cannot be chosen gets no runes, so that no rune ever leads to it. */
        private void takeBands(Bands bands) {
            for (int gate = 0; gate < MAX_GATES; gate++) {
                boolean usable = bands.bandFrom(gate) == gate && !bands.crossesItself(gate);
                put(runesOf, gate, usable ? bands.maskOf(gate) & allRunes : 0L);
            }
        }

        /** A rune lets bands go straight on: one at most enters it in its row, one in its column. */
        private void pairBands(Bands bands) {
            for (int cell = 0; cell < MAX_CELLS; cell++) {
                int inRow = bands.bandInRow(cell);
                int inColumn = bands.bandInColumn(cell);
                put(lowerBands, cell, Math.min(inRow, inColumn));
                put(higherBands, cell, Math.max(inRow, inColumn));
            }
        }

        /** Each level chooses a band that no level before it has chosen, so the levels are as many as the gates at most. */
        private static void look(Search search, int depth, long runesRead) {
            if (search.looked == MAX_NODES || depth > MAX_GATES) {
                search.stopped = true;
                return;
            }
            search.looked++;
            long open = search.allRunes & ~runesRead;
            if (open == 0L) {
                search.keepChoice(depth);
                return;
            }
            long lowest = open & -open;
            int cell = Long.bitCount(lowest - 1L);
            for (int turn = 0; turn < 2 && !search.isOver(); turn++) {
                int band = at(turn == 0 ? search.lowerBands : search.higherBands, cell);
                long runes = at(search.runesOf, band);
                if ((runes & lowest) != 0L && (runes & runesRead) == 0L) {
                    put(search.picked, depth, band);
                    look(search, depth + 1, runesRead | runes);
                }
            }
        }

        private boolean isOver() {
            return stopped || found == most;
        }

        private void keepChoice(int size) {
            if (found == 0) {
                copy(picked, first);
                firstSize = size;
            }
            smallest = found == 0 ? size : Math.min(smallest, size);
            found++;
        }

        int firstBandAt(int index) {
            return found > 0 && index < firstSize ? at(first, index) : NONE;
        }
    }

    /** The text, from which words and stones are taken. */
    private static final class Text {
        private final int[] bytes = new int[MAX_TEXT];
        private int length;

        boolean isFull() {
            return length >= MAX_TEXT;
        }

        void add(int value) {
            put(bytes, length, value);
            length++;
        }

        boolean isWord() {
            if (!isWithin(length, 1, MAX_LETTERS)) {
                return false;
            }
            for (int index = 0; index < length; index++) {
                if (!isLetter(at(bytes, index))) {
                    return false;
                }
            }
            return true;
        }

        /** The syntax error position, NONE if there is none. The first row tells how long the others are. */
        int errorPosition() {
            int fewest = MIN_SIDE;
            int most = MAX_SIDE;
            int rows = 1;
            int column = 0;
            for (int index = 0; index < length; index++) {
                int value = at(bytes, index);
                if (value == ROW_END) {
                    if (column < fewest || rows == MAX_SIDE) {
                        return index;
                    }
                    fewest = column;
                    most = column;
                    rows++;
                    column = 0;
                } else if (column == most || !isCellByte(value)) {
                    return index;
                } else {
                    column++;
                }
            }
            return rows >= MIN_SIDE && column == most ? NONE : length;
        }

        /** Only for a text without a syntax error. */
        void carve(Stone stone) {
            int rows = 1;
            for (int index = 0; index < length; index++) {
                rows += at(bytes, index) == ROW_END ? 1 : 0;
            }
            stone.clear(firstRowLength(), rows);
            int cell = 0;
            for (int index = 0; index < length; index++) {
                if (at(bytes, index) != ROW_END) {
                    stone.putByte(cell, at(bytes, index));
                    cell++;
                }
            }
        }

        private int firstRowLength() {
            int column = 0;
            while (column < length && at(bytes, column) != ROW_END) {
                column++;
            }
            return column;
        }
    }
}
