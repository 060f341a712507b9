import java.io.IOException;
import java.nio.file.Files;
import java.nio.file.Path;
import java.util.List;

/** What of LANGUAGE.md can be seen from the lines of the source. */
public final class LanguageTest {
    private static final List<String> FORBIDDEN = List.of("->", "::", "catch", "finally", "synchronized", "assert",
        "instanceof", "Exact(", "System.out", "System.in", "System.nano", "System.current", "Random", "Thread",
        "protected ", "hashCode", "toString", "getMessage", "HashMap", "String.format", "\" +", "+ \"", "double", "float");
    private static final List<String> IMPORTS = List.of("import java.util.Arrays;", "import java.util.NoSuchElementException;");

    public static void main(String[] args) throws IOException {
        Check check = new Check("LanguageTest");
        List<String> lines = Files.readAllLines(Path.of(System.getProperty("source", "src/main/java/LampHall.java")));
        int classes = 0;
        for (int i = 0; i < lines.size(); i++) {
            String line = lines.get(i);
            String code = line.strip();
            if (code.startsWith("//") || code.startsWith("/*") || code.startsWith("*")) {
                continue;
            }
            for (String word : FORBIDDEN) {
                check.due("line " + (i + 1) + " has " + word, code.contains(word), false);
            }
            if (code.startsWith("import")) {
                check.due(code, IMPORTS.contains(code), true);
            }
            if (code.contains("static") && !code.contains("(") && !code.contains("class ") && code.contains("=")) {
                check.due("line " + (i + 1) + " is final", code.contains("static final"), true);
            }
            for (int sign : code.chars().toArray()) {
                check.due("line " + (i + 1) + " has plain signs", sign >= 32 && sign < 127, true);
            }
            if (code.contains("new ")) {
                check.due("line " + (i + 1) + " makes what it makes with the object", isMadeWithObject(line), true);
            }
            classes += code.contains("class ") ? 1 : 0;
            if (beginsMethod(line)) {
                check.due("the method at line " + (i + 1) + " is short", length(lines, i) <= 60, true);
            }
        }
        check.due("classes", classes <= 12, true);
        check.end();
    }

    /** Rows stand in fields and are made with the object, as rule 12's count takes every call for the dearest. */
    private static boolean isMadeWithObject(String line) {
        return line.contains("throw new ") || line.matches(" {4}(?: {4})?(private |final )+\\S+ \\w+ = new .*;");
    }

    private static boolean beginsMethod(String line) {
        return line.matches(" {4}(?: {4})?[a-zA-Z].*\\).* \\{") && !line.matches(" *(if|for|while|switch|do|else)\\b.*");
    }

    private static int length(List<String> lines, int from) {
        String indent = lines.get(from).substring(0, lines.get(from).length() - lines.get(from).stripLeading().length());
        int to = from;
        while (to < lines.size() && !lines.get(to).equals(indent + "}")) {
            to++;
        }
        return to - from + 1;
    }
}
