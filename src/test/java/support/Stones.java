/** Short ways to write a stone, a list and what is read from them. */
final class Stones {
    private Stones() {
    }

    static void write(RuneBands stone, String text) {
        stone.clearText();
        for (int index = 0; index < text.length(); index++) {
            stone.append(text.charAt(index));
        }
    }

    static RuneBands of(String text) {
        RuneBands stone = new RuneBands();
        write(stone, text);
        if (stone.parse() < 0) {
            throw new IllegalStateException("no stone: " + text);
        }
        return stone;
    }

    static RuneBands of(String text, String... words) {
        RuneBands stone = of(text);
        for (String word : words) {
            addWord(stone, word);
        }
        return stone;
    }

    static int addWord(RuneBands stone, String word) {
        write(stone, word);
        return stone.addWord();
    }

    /** The cells, row by row, as a text would have them. */
    static String cells(RuneBands stone) {
        StringBuilder text = new StringBuilder();
        int width = stone.value(0);
        int cells = width * stone.value(1);
        for (int cell = 0; cell < cells; cell++) {
            if (cell > 0 && cell % width == 0) {
                text.append('|');
            }
            text.append((char) stone.cell(cell, 0));
        }
        return text.toString();
    }

    static String reading(RuneBands stone, int gate) {
        StringBuilder text = new StringBuilder();
        for (int value = stone.read(gate, 0); value != RuneBands.NONE; value = stone.read(gate, text.length())) {
            text.append((char) value);
        }
        return text.toString();
    }

    static String path(RuneBands stone, int gate) {
        StringBuilder text = new StringBuilder();
        for (int index = 0; index < stone.band(gate, 3); index++) {
            text.append(index == 0 ? "" : " ").append(stone.cellOf(gate, index));
        }
        return text.toString();
    }

    static String words(RuneBands stone) {
        StringBuilder text = new StringBuilder();
        for (int word = 0; word < stone.value(9); word++) {
            text.append(word == 0 ? "" : " ");
            for (int index = 0; stone.word(word, index) != RuneBands.NONE; index++) {
                text.append((char) ('a' + stone.word(word, index)));
            }
        }
        return text.toString();
    }

    static String chosen(RuneBands stone) {
        StringBuilder text = new StringBuilder();
        for (int index = 0; stone.chosen(index) != RuneBands.NONE; index++) {
            text.append(index == 0 ? "" : " ").append(stone.chosen(index));
        }
        return text.toString();
    }
}
