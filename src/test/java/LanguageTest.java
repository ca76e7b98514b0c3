import java.io.IOException;
import java.nio.file.Files;
import java.nio.file.Path;
import java.util.regex.Matcher;
import java.util.regex.Pattern;

/** What can be seen of ../shared/LANGUAGE.md in the program's words; run from the project's folder. */
public final class LanguageTest {
    private static final Check CHECK = new Check();

    public static void main(String[] args) throws IOException {
        String source = Files.readString(Path.of("src/main/java/NoiseTithe.java"));
        String code = source
                .replaceAll("(?s)/\\*.*?\\*/", " ")
                .replaceAll("//[^\n]*", " ")
                .replaceAll("'[^']'", "'x'");
        none(code, "forbidden words",
                "\\b(package|import|throw|throws|try|catch|synchronized|assert|volatile|native|protected)\\b");
        none(code, "lambdas, method references", "->|::");
        none(code, "doubles, floats", "\\b(double|float)\\b");
        none(code, "own equals, hashCode, toString", "\\b(equals|hashCode|toString)\\s*\\(");
        none(code, "functions that throw", "\\w+Exact\\b");
        none(code, "classes of the library beyond its list",
                "\\b(System\\.(?!arraycopy)\\w+|Random|Thread|Object|Arrays|Map|HashMap|Iterator)\\b");
        none(code, "static state", "(?m)^\\s*(private )?static (?!final)[\\w\\[\\]]+ \\w+\\s*[=;]");
        none(code, "joined texts", "\"");
        none(code, "objects made behind the constructors", "(?<!= )\\bnew\\b|return new");
        CHECK.due("classes: twelve at most", count(code, "\\b(class|enum|record|interface)\\s+[A-Z]") <= 12 ? 1 : 0, 1);
        methodsAreShort(source);
        CHECK.end();
    }

    private static int count(String code, String pattern) {
        Matcher matcher = Pattern.compile(pattern).matcher(code);
        int n = 0;
        while (matcher.find()) {
            n++;
        }
        return n;
    }

    private static void none(String code, String what, String pattern) {
        Matcher matcher = Pattern.compile(pattern).matcher(code);
        String first = matcher.find() ? matcher.group().trim() : "";
        CHECK.due(what + ": '" + first + "', how many", count(code, pattern), 0);
    }

    /** A method begins and ends at its own indentation. */
    private static void methodsAreShort(String source) {
        String[] lines = source.split("\n");
        for (int i = 0; i < lines.length; i++) {
            if (!lines[i].matches(" +[^ ].*\\) \\{") || lines[i].matches(" +(if|for|while|switch|\\}).*")) {
                continue;
            }
            String end = lines[i].replaceAll("[^ ].*", "") + "}";
            int last = i;
            while (last < lines.length && !lines[last].equals(end)) {
                last++;
            }
            CHECK.due("lines of" + lines[i] + " are sixty at most", last - i <= 60 ? 1 : 0, 1);
        }
    }
}
