import java.io.IOException;
import java.nio.file.Files;
import java.nio.file.Path;
import java.util.List;
import java.util.regex.Matcher;
import java.util.regex.Pattern;

/** What can be seen of ../shared/LANGUAGE.md by looking at the program's words alone. */
public final class LanguageTest {
    private static final Path PROGRAM = Path.of("src/main/java/RuneBands.java");
    private static final String[] FORBIDDEN = {"^(?!\\s*(case|default)\\b).*->", "::", "\\bfinally\\b", "\\bsynchronized\\b",
        "\\bassert\\b", "Exact\\b", "\\bprotected\\b", "^\\s*package\\b", "\\bSystem\\b(?!\\.arraycopy)", "\\bObject\\b",
        "\\bpublic\\s+static\\b(?! final int NONE)", "\\bRandom\\b", "\\bThread\\b", "\\bhashCode\\b", "\\bgetMessage\\b",
        "\\bextends \\w*(Exception|Error)\\b", "\\b(ArrayIndexOutOfBounds|NullPointer|ClassCast|NegativeArraySize|ArrayStore)Exception\\b",
        "\\bcatch \\((Exception|Throwable|Error)\\b"};
    private static final String IMPORTS = "import java\\.util\\.(ArrayList|Arrays|Iterator|List|NoSuchElementException);";
    private static final int LONGEST_METHOD = 60;
    private static final int MOST_CLASSES = 12;
    private static final int MOST_FIELDS = 20;

    public static void main(String[] args) throws IOException {
        String code = withoutTexts(Files.readString(PROGRAM));
        for (String word : FORBIDDEN) {
            Matcher found = Pattern.compile(word, Pattern.MULTILINE).matcher(code);
            Check.sameText("found of " + word, found.find() ? found.group() : "", "");
        }
        code.lines().filter(line -> line.startsWith("import ")).forEach(line -> Check.holds(line, line.matches(IMPORTS)));
        long classes = Pattern.compile("\\bclass \\w+").matcher(code).results().count();
        Check.holds("classes: " + classes, classes <= MOST_CLASSES);
        staticsAreFinal(code);
        methodsAreShort(code.lines().toList());
        fieldsAreFew(code.lines().toList());
        Check.end();
    }

    /** Comments, texts and characters are taken out: they may say what they like. */
    private static String withoutTexts(String source) {
        return source.replaceAll("(?s)/\\*.*?\\*/", "").replaceAll("(?m)//.*$", "")
            .replaceAll("\"(\\\\.|[^\"\\\\])*\"", "\"\"").replaceAll("'(\\\\.|[^'\\\\])'", "''");
    }

    private static void staticsAreFinal(String code) {
        Matcher fields = Pattern.compile("(?m)^.*\\bstatic\\b[^({\\n]*[=;].*$").matcher(code);
        while (fields.find()) {
            Check.holds("final: " + fields.group().trim(), fields.group().contains(" static final "));
        }
    }

    private static void methodsAreShort(List<String> lines) {
        int start = 0;
        for (int line = 0; line < lines.size(); line++) {
            String text = lines.get(line);
            if (text.matches(" +[\\w\\[\\] ]+\\(.*\\{") && !text.matches(" +(if|for|while|switch|\\} else).*")) {
                start = line;
            } else if (text.matches(" {4}(    )?\\}") && start > 0) {
                Check.holds("the method in line " + start, line - start <= LONGEST_METHOD);
                start = 0;
            }
        }
    }

    private static void fieldsAreFew(List<String> lines) {
        int fields = 0;
        for (String text : lines) {
            if (text.contains(" class ")) {
                fields = 0;
            } else if (text.matches(" {4}(    )?private [^(]*;") && !text.contains("static")
                    || text.matches(" {4}(    )?private final [^(]* = new .*;")) {
                fields++;
                Check.holds("field " + fields + " of a class: " + text.trim(), fields <= MOST_FIELDS);
            }
        }
    }
}
