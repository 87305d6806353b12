import java.util.ArrayDeque;
import java.util.ArrayList;
import java.util.Arrays;
import java.util.Deque;
import java.util.HashSet;
import java.util.List;
import java.util.Set;
import java.util.TreeSet;

/**
 * The document once more, written over the Java library, in another way than the program: it keeps
 * nothing but rows of text, and works out everything anew for each call.
 */
final class Oracle {
    static final int NODE_LIMIT = 2000;

    private List<String> rows = emptyRows(4, 4);
    private List<String> words = new ArrayList<>();
    private final StringBuilder text = new StringBuilder();
    private final Deque<List<List<String>>> saved = new ArrayDeque<>();

    private static List<String> emptyRows(int width, int height) {
        List<String> made = new ArrayList<>();
        for (int row = 0; row < height; row++) {
            made.add(".".repeat(width));
        }
        return made;
    }

    private int width() {
        return rows.get(0).length();
    }

    private int height() {
        return rows.size();
    }

    private int gates() {
        return 2 * (width() + height());
    }

    private String cells() {
        return String.join("", rows);
    }

    private void save() {
        saved.addLast(List.of(List.copyOf(rows), List.copyOf(words)));
        if (saved.size() > 4) {
            saved.removeFirst();
        }
    }

    private static void index(boolean fits) {
        if (!fits) {
            throw new IndexOutOfBoundsException();
        }
    }

    private static void argument(boolean fits) {
        if (!fits) {
            throw new IllegalArgumentException();
        }
    }

    private static void state(boolean fits) {
        if (!fits) {
            throw new IllegalStateException();
        }
    }

    private static long matches(String bytes, String pattern) {
        return bytes.chars().filter(b -> String.valueOf((char) b).matches(pattern)).count();
    }

    // ---- stone

    int setSize(int width, int height) {
        argument(width >= 2 && width <= 7 && height >= 2 && height <= 7);
        save();
        rows = emptyRows(width, height);
        return gates();
    }

    int setCell(int cell, int value) {
        index(cell >= 0 && cell < cells().length());
        argument(value > 0 && value < 128 && String.valueOf((char) value).matches("[a-zA-Z./\\\\#:]"));
        save();
        int previous = cells().charAt(cell);
        StringBuilder changed = new StringBuilder(cells());
        changed.setCharAt(cell, (char) value);
        rows = cut(changed.toString(), width());
        return previous;
    }

    private static List<String> cut(String cells, int width) {
        List<String> made = new ArrayList<>();
        for (int at = 0; at < cells.length(); at += width) {
            made.add(cells.substring(at, at + width));
        }
        return made;
    }

    int turnCorners() {
        save();
        rows = cut(cells().replace('/', '!').replace('\\', '/').replace('!', '\\'), width());
        return (int) matches(cells(), "[/\\\\]");
    }

    int turnStone() {
        save();
        List<String> made = new ArrayList<>();
        for (int column = 0; column < width(); column++) {
            StringBuilder line = new StringBuilder();
            for (String row : rows) {
                line.insert(0, row.charAt(column));
            }
            made.add(line.toString().replace('/', '!').replace('\\', '/').replace('!', '\\'));
        }
        rows = made;
        return gates();
    }

    int addWord() {
        state(text.toString().matches("[a-z]{1,8}") && !words.contains(text.toString()) && words.size() < 8);
        save();
        words.add(text.toString());
        return words.size() - 1;
    }

    int removeWord(int word) {
        index(word >= 0 && word < words.size());
        save();
        words.remove(word);
        return words.size();
    }

    int cell(int cell, int what) {
        index(cell >= 0 && cell < cells().length());
        argument(what >= 0 && what <= 4);
        char value = cells().charAt(cell);
        if (what == 0) {
            return value;
        }
        if (what == 4) {
            return Character.isLetter(value) ? Character.toLowerCase(value) - 'a' : -1;
        }
        int lowest = -1;
        int entries = 0;
        for (int band : bands()) {
            for (int[] step : path(band)) {
                boolean inRow = step[1] == 0;
                if (step[0] == cell) {
                    entries++;
                    if (lowest < 0 && inRow == (what == 1)) {
                        lowest = band;
                    }
                }
            }
        }
        return what == 3 ? entries : lowest;
    }

    int value(int what) {
        argument(what >= 0 && what <= 9);
        switch (what) {
            case 0: return width();
            case 1: return height();
            case 2: return (int) matches(cells(), "[a-zA-Z]");
            case 3: return (int) matches(cells(), "[A-Z]");
            case 4: return (int) matches(cells(), "[/\\\\]");
            case 5: return (int) matches(cells(), "#");
            case 6: return gates();
            case 7: return bands().size();
            case 8: return (int) bands().stream().filter(this::crosses).count();
            default: return words.size();
        }
    }

    int word(int word, int index) {
        index(word >= 0 && word < words.size() && index >= 0);
        return index < words.get(word).length() ? words.get(word).charAt(index) - 'a' : -1;
    }

    // ---- bands

    /** Steps from a gate: the cell, and the rows and columns by which the band came into it. */
    private List<int[]> walk(int gate, int[] endGate) {
        int w = width();
        int h = height();
        int row;
        int column;
        int down = 0;
        int right = 0;
        if (gate < w) {
            row = 0;
            column = gate;
            down = 1;
        } else if (gate < w + h) {
            row = gate - w;
            column = w - 1;
            right = -1;
        } else if (gate < w + h + w) {
            row = h - 1;
            column = gate - w - h;
            down = -1;
        } else {
            row = gate - w - h - w;
            column = 0;
            right = 1;
        }
        List<int[]> steps = new ArrayList<>();
        endGate[0] = -1;
        while (row >= 0 && row < h && column >= 0 && column < w) {
            steps.add(new int[] {row * w + column, down});
            char value = rows.get(row).charAt(column);
            if (value == '#') {
                return steps;
            }
            int oldDown = down;
            if (value == '/') {
                down = -right;
                right = -oldDown;
            } else if (value == '\\') {
                down = right;
                right = oldDown;
            }
            row += down;
            column += right;
        }
        endGate[0] = row < 0 ? column : column >= w ? w + row : row >= h ? w + h + column : 2 * w + h + row;
        return steps;
    }

    private List<int[]> path(int gate) {
        return walk(gate, new int[1]);
    }

    private int end(int gate) {
        int[] endGate = new int[1];
        walk(gate, endGate);
        return endGate[0];
    }

    private int number(int gate) {
        int end = end(gate);
        return end < 0 || end > gate ? gate : end;
    }

    private Set<Integer> bands() {
        Set<Integer> numbers = new TreeSet<>();
        for (int gate = 0; gate < gates(); gate++) {
            numbers.add(number(gate));
        }
        return numbers;
    }

    private Set<Integer> entered(int gate) {
        Set<Integer> cells = new HashSet<>();
        path(gate).forEach(step -> cells.add(step[0]));
        return cells;
    }

    private boolean crosses(int gate) {
        return entered(gate).size() < path(gate).size();
    }

    private String along(int gate) {
        StringBuilder bytes = new StringBuilder();
        path(gate).forEach(step -> bytes.append(cells().charAt(step[0])));
        return bytes.toString();
    }

    private String reading(int gate) {
        String withGaps = along(gate).replaceAll("[./\\\\#]", "").replace(':', ' ')
            .replaceAll("([A-Z])", "$1 $1").toLowerCase();
        return withGaps.strip().replaceAll(" +", " ");
    }

    int band(int gate, int what) {
        index(gate >= 0 && gate < gates());
        argument(what >= 0 && what <= 6);
        List<int[]> path = path(gate);
        switch (what) {
            case 0: return number(gate);
            case 1: return end(gate);
            case 2: return path.get(path.size() - 1)[0];
            case 3: return path.size();
            case 4: return (int) matches(along(gate), "[/\\\\]");
            case 5: return (int) matches(along(gate), "[a-zA-Z]");
            default: return crosses(gate) ? 1 : 0;
        }
    }

    int cellOf(int gate, int index) {
        index(gate >= 0 && gate < gates() && index >= 0 && index < path(gate).size());
        return path(gate).get(index)[0];
    }

    int read(int gate, int index) {
        index(gate >= 0 && gate < gates() && index >= 0);
        return index < reading(gate).length() ? reading(gate).charAt(index) : -1;
    }

    private List<String> readWords(int gate) {
        List<String> found = new ArrayList<>(Arrays.asList(reading(gate).split(" ")));
        found.removeIf(String::isEmpty);
        return found;
    }

    private boolean good(int gate) {
        return !readWords(gate).isEmpty() && words.containsAll(readWords(gate));
    }

    int wordsOf(int gate) {
        index(gate >= 0 && gate < gates());
        int listed = (int) readWords(gate).stream().filter(words::contains).count();
        return good(gate) ? listed : -1 - listed;
    }

    boolean alike(int gate) {
        index(gate >= 0 && gate < gates());
        return end(gate) >= 0 && reading(gate).equals(reading(end(gate)));
    }

    // ---- choices

    /** One search, with what it finds. */
    final class Hunt {
        final List<List<Integer>> found = new ArrayList<>();
        int looked;
        boolean tooMany;
        private final int most;
        private final int limit;
        private final Set<Integer> runes = new TreeSet<>();
        private final List<Integer> usable = new ArrayList<>();
        private final List<Set<Integer>> runesRead = new ArrayList<>();

        Hunt(int most, int limit) {
            this.most = most;
            this.limit = limit;
            for (int cell = 0; cell < cells().length(); cell++) {
                if (Character.isLetter(cells().charAt(cell))) {
                    runes.add(cell);
                }
            }
            for (int band : bands()) {
                if (!crosses(band)) {
                    Set<Integer> read = entered(band);
                    read.retainAll(runes);
                    usable.add(band);
                    runesRead.add(read);
                }
            }
            look(new ArrayList<>(), new TreeSet<>(runes));
        }

        private void look(List<Integer> chosen, TreeSet<Integer> unread) {
            if (looked >= limit) {
                tooMany = true;
                return;
            }
            looked++;
            if (unread.isEmpty()) {
                found.add(List.copyOf(chosen));
                return;
            }
            for (int at = 0; at < usable.size(); at++) {
                if (tooMany || found.size() >= most) {
                    return;
                }
                if (runesRead.get(at).contains(unread.first()) && unread.containsAll(runesRead.get(at))) {
                    List<Integer> longer = new ArrayList<>(chosen);
                    longer.add(usable.get(at));
                    TreeSet<Integer> left = new TreeSet<>(unread);
                    left.removeAll(runesRead.get(at));
                    look(longer, left);
                }
            }
        }
    }

    Hunt hunt(int most, int limit) {
        return new Hunt(most, limit);
    }

    int choices(int most) {
        argument(most >= 1 && most <= 50);
        return hunt(most, NODE_LIMIT).found.size();
    }

    int nodes(int most) {
        argument(most >= 1 && most <= 50);
        Hunt hunt = hunt(most, NODE_LIMIT);
        return hunt.tooMany ? -2000 : hunt.looked;
    }

    int chosen(int index) {
        index(index >= 0);
        Hunt hunt = hunt(1, NODE_LIMIT);
        return hunt.found.isEmpty() || index >= hunt.found.get(0).size() ? -1 : hunt.found.get(0).get(index);
    }

    int fewest() {
        return hunt(50, NODE_LIMIT).found.stream().mapToInt(List::size).min().orElse(-1);
    }

    int repair() {
        List<String> before = rows;
        for (int cell = 0; cell < cells().length(); cell++) {
            for (int corner = 0; corner < 2 && cells().charAt(cell) == '#'; corner++) {
                StringBuilder changed = new StringBuilder(cells());
                changed.setCharAt(cell, "/\\".charAt(corner));
                rows = cut(changed.toString(), width());
                boolean mended = !hunt(1, NODE_LIMIT).found.isEmpty();
                rows = before;
                if (mended) {
                    return 2 * cell + corner;
                }
            }
        }
        return -1;
    }

    double told() {
        Set<Integer> runes = hunt(1, 1).runes;
        Set<Integer> read = new HashSet<>();
        for (int gate = 0; gate < gates(); gate++) {
            if (good(gate)) {
                read.addAll(entered(gate));
            }
        }
        read.retainAll(runes);
        return runes.isEmpty() ? 1.0 : (double) read.size() / (double) runes.size();
    }

    // ---- text

    int append(int value) {
        argument(value >= 0 && value <= 127);
        state(text.length() < 60);
        text.append((char) value);
        return text.length();
    }

    int clearText() {
        int before = text.length();
        text.setLength(0);
        return before;
    }

    /** Whether more bytes could make a text out of these. */
    private static boolean canGoOn(String start) {
        String[] parts = start.split("\\|", -1);
        if (parts.length > 7) {
            return false;
        }
        int width = parts.length == 1 ? 7 : parts[0].length();
        for (int row = 0; row < parts.length; row++) {
            boolean ended = row < parts.length - 1;
            int length = parts[row].length();
            if (!parts[row].matches("[a-zA-Z./\\\\#:]*") || length > width || ended && length < Math.max(2, width)
                    || length > 7) {
                return false;
            }
        }
        return true;
    }

    int parse() {
        for (int at = 0; at < text.length(); at++) {
            if (!canGoOn(text.substring(0, at + 1))) {
                return -10 - at;
            }
        }
        String[] parts = text.toString().split("\\|", -1);
        if (parts.length < 2 || parts[parts.length - 1].length() < parts[0].length()) {
            return -10 - text.length();
        }
        save();
        rows = List.of(parts);
        return value(2);
    }

    // ---- state

    int undo() {
        state(!saved.isEmpty());
        List<List<String>> last = saved.removeLast();
        rows = last.get(0);
        words = new ArrayList<>(last.get(1));
        return saved.size();
    }

    long digest() {
        List<Long> values = new ArrayList<>();
        values.add((long) text.length());
        for (int what = 0; what <= 9; what++) {
            values.add((long) value(what));
        }
        for (int cell = 0; cell < cells().length(); cell++) {
            for (int what = 0; what <= 4; what++) {
                values.add((long) cell(cell, what));
            }
        }
        for (int gate = 0; gate < gates(); gate++) {
            for (int what = 0; what <= 6; what++) {
                values.add((long) band(gate, what));
            }
            reading(gate).chars().forEach(b -> values.add((long) b));
            values.add((long) wordsOf(gate));
        }
        words.forEach(word -> word.chars().forEach(b -> values.add((long) (b - 'a'))));
        values.add((long) choices(3));
        values.add((long) saved.size());
        long hash = 3499;
        for (long value : values) {
            hash = 31 * hash + value;
        }
        return hash;
    }
}
