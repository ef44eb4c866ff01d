import java.io.IOException;
import java.nio.file.Files;
import java.nio.file.Path;
import java.util.ArrayList;
import java.util.List;
import java.util.regex.Matcher;
import java.util.regex.Pattern;

/** The rules of LANGUAGE.md, as far as they can be seen in the class's text. */
public final class LanguageTest {
    private static final String FACE = "status feed grammar fault many symbol production hangs induced circle visit"
            + " ordered plan real shades tree node value knot span run longest put give graft anew digest";
    private static int wrong;

    public static void main(String[] args) throws IOException {
        String raw = Files.readString(Path.of("src/main/java/RuleShuttle.java"));
        String source = raw.replaceAll("(?s)/\\*.*?\\*/", "").replaceAll("//[^\n]*", "");
        check(raw.chars().allMatch(c -> c == 10 || c >= 32 && c < 127), "a sign that is no plain one");
        for (String word : List.of("throw", "throws", "try", "catch", "synchronized", "assert", "volatile", "native",
                "protected", "extends", "implements", "instanceof", "var", "hashCode", "toString", "null", "yield")) {
            check(!Pattern.compile("\\b" + word + "\\b").matcher(source).find(), "the word " + word);
        }
        check(!source.contains("->") && !source.contains("::"), "a lambda or a method reference");
        check(source.replace("import java.util.Arrays;", "").indexOf("import ") < 0, "an import");
        Matcher library = Pattern.compile("\\b(Arrays|System|Integer|Math|String|Object|Thread|Long)\\.(\\w+)").matcher(source);
        while (library.find()) {
            check(List.of("Arrays.fill", "System.arraycopy", "Integer.bitCount", "Integer.numberOfTrailingZeros",
                    "Math.max", "Math.min").contains(library.group()), "the library's " + library.group());
        }
        faces(source);
        sizes(source);
        System.out.println("LanguageTest: " + (wrong == 0 ? "as due" : wrong + " wrong"));
        if (wrong != 0) {
            System.exit(1);
        }
    }

    private static void check(boolean good, String what) {
        if (!good) {
            wrong++;
            System.out.println("LanguageTest: " + what);
        }
    }

    private static void faces(String source) {
        List<String> found = new ArrayList<>();
        Matcher open = Pattern.compile("public int (\\w+)\\(").matcher(source);
        while (open.find()) {
            found.add(open.group(1));
        }
        check(String.join(" ", found).equals(FACE), "the face is " + found);
        Matcher all = Pattern.compile("\n +(?:private |static |final )*(?:int|boolean|void|long) (\\w+)\\([^;]*\\{").matcher(source);
        while (all.find()) {
            check(!found.contains(all.group(1)), "a method of one's own with a public name: " + all.group(1));
        }
        check(source.split("\\bpublic\\b").length - 1 == 3 + found.size(), "another public member");
    }

    private static void sizes(String source) {
        int classes = 0;
        int fields = 0;
        int begun = -1;
        String[] lines = source.split("\n");
        for (int n = 0; n < lines.length; n++) {
            String line = lines[n];
            if (line.contains(" class ")) {
                classes++;
                fields = 0;
                check(line.contains("public final class RuleShuttle") || line.contains("private static final class"),
                        "a class that is not nested: " + line);
            }
            String indent = classes > 1 ? " {8}" : " {4}";
            if (line.matches(indent + "(?:private |final )*[A-Za-z]+(?:\\[\\])? \\w+(?: = .*)?;")) {
                fields++;
                check(fields <= 20, "more than 20 fields: " + line);
            }
            if (line.matches(" {4}(?: {4})?(?:public |private |static |final )*(?:\\w+ )?\\w+\\([^;]*\\) \\{")) {
                begun = n;
                check(line.split(",").length <= 7, "more than seven parameters: " + line);
            }
            if (begun >= 0 && line.matches(" {4}(?: {4})?\\}")) {
                check(n - begun <= 60, "a long method: " + lines[begun]);
                begun = -1;
            }
        }
        check(classes <= 12, classes + " classes");
    }
}
