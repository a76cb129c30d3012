import java.io.IOException;
import java.nio.charset.StandardCharsets;
import java.nio.file.Files;
import java.nio.file.Path;
import java.util.HashSet;
import java.util.List;
import java.util.Set;
import java.util.regex.Matcher;
import java.util.regex.Pattern;

/** The rules of ../shared/LANGUAGE.md that can be seen from the text of the class. It runs in the project's folder. */
public final class LanguageTest {
    private static final Path SOURCE = Path.of("src/main/java/FrameReader.java");
    private static final int MOST_LINES = 60;
    private static final int MOST_PARAMETERS = 7;
    private static final int MOST_CLASSES = 12;
    private static final int MOST_FIELDS = 20;
    private static final Pattern METHOD = Pattern.compile(
        "^ +((?:public |private |static |final )*)(?:[A-Za-z]+(?:\\[\\])* )?([A-Za-z]+)\\(([^()]*)\\) \\{$");
    private static final Due DUE = new Due("LanguageTest");

    private LanguageTest() {
    }

    public static void main(String[] args) throws IOException {
        String source = Files.readString(SOURCE, StandardCharsets.ISO_8859_1);
        DUE.is("signs behind 127", source.chars().filter(c -> c > 126 || c < 32 && c != '\n').count(), 0);
        words(bare(source));
        imports(bare(source));
        methods(List.of(bare(source).split("\n")));
        classes(List.of(bare(source).split("\n")));
        DUE.end();
    }

    /** The source without comments and without what stands in quotes; its lines stay. */
    private static String bare(String source) {
        String bare = source.replaceAll("'(\\\\.|[^'\\\\])'", "' '").replaceAll("\"(\\\\.|[^\"\\\\])*\"", "\"\"");
        bare = bare.replaceAll("//[^\n]*", "");
        Matcher matcher = Pattern.compile("/\\*.*?\\*/", Pattern.DOTALL).matcher(bare);
        return matcher.replaceAll(found -> "\n".repeat((int) found.group().chars().filter(c -> c == '\n').count()));
    }

    private static void words(String source) {
        String[] ruledOut = {"\\bthrow\\b", "\\bthrows\\b", "\\btry\\b", "\\bcatch\\b", "\\bsynchronized\\b",
            "\\bassert\\b", "->", "::", "\\bprotected\\b", "\\bequals\\b", "\\bhashCode\\b", "\\btoString\\b",
            "\\bSystem\\.(?!arraycopy)", "\\bMap\\b", "\\bSet\\b", "\\bObject\\b", "Exact\\b", "\\bvar\\b",
            "\\bvolatile\\b", "\\bThread\\b", "static \\{", "@"};
        for (String word : ruledOut) {
            DUE.is("ruled out: " + word, Pattern.compile(word).matcher(source).results().count(), 0);
        }
        DUE.is("text joined by +", Pattern.compile("\"\" *\\+|\\+ *\"\"").matcher(source).results().count(), 0);
    }

    private static void imports(String source) {
        Matcher matcher = Pattern.compile("^import (.*);$", Pattern.MULTILINE).matcher(source);
        while (matcher.find()) {
            DUE.is("import", matcher.group(1), "java.util.Arrays");
        }
    }

    private static void methods(List<String> lines) {
        Set<String> open = new HashSet<>();
        Set<String> hidden = new HashSet<>();
        for (int i = 0; i < lines.size(); i++) {
            Matcher matcher = METHOD.matcher(lines.get(i));
            if (!matcher.matches()) {
                continue;
            }
            (matcher.group(1).contains("public") ? open : hidden).add(matcher.group(2));
            int parameters = matcher.group(3).isEmpty() ? 0 : matcher.group(3).split(",").length;
            DUE.is("few parameters of " + matcher.group(2), parameters <= MOST_PARAMETERS, true);
            String end = " ".repeat(lines.get(i).indexOf(lines.get(i).trim())) + "}";
            int last = i;
            while (last < lines.size() && !lines.get(last).equals(end)) {
                last++;
            }
            DUE.is("few lines of " + matcher.group(2), last - i < MOST_LINES, true);
        }
        DUE.is("methods were found", open.size() > 32 && hidden.size() > 60, true);
        hidden.retainAll(open);
        DUE.is("private ones with public names", hidden.toString(), "[]");
    }

    private static void classes(List<String> lines) {
        int classes = 0;
        int fields = 0;
        for (String line : lines) {
            if (line.contains(" class ")) {
                classes++;
                DUE.is("few fields above " + line.trim(), fields <= MOST_FIELDS, true);
                boolean inside = line.startsWith("    private static final class ");
                DUE.is("static inside: " + line.trim(), classes == 1 || inside, true);
                fields = 0;
            } else if (line.matches((classes == 1 ? " {4}" : " {8}")
                    + "(private )?(final )?[A-Za-z]+(\\[\\])* [A-Za-z]+( = .*)?;")) {
                fields++;
            }
        }
        DUE.is("few classes", classes > 1 && classes <= MOST_CLASSES, true);
    }
}
