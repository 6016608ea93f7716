import java.nio.charset.StandardCharsets;
import java.nio.file.Files;
import java.nio.file.Path;
import java.util.List;
import java.util.regex.Matcher;
import java.util.regex.Pattern;

/** Rules of ../shared/LANGUAGE.md that can be seen in the source itself. */
public final class LanguageTest {
    private static final Check CHECK = new Check();
    private static final List<String> NEVER = List.of("->", "::", "finally", "synchronized", "assert ", "try {", "catch (",
        "getMessage", "System.out", "Exact(", "toString", "hashCode", "new Thread", "System.nanoTime", "Random", "double ", "float ");

    public static void main(String[] args) throws Exception {
        String source = Files.readString(Path.of("src/main/java/SharedCup.java"), StandardCharsets.ISO_8859_1);
        CHECK.yes("signs 10 and 32 to 126 alone", source.matches("(?s)[\\n -~]*"));
        String code = source.replaceAll("(?s)/\\*.*?\\*/", "").replaceAll("//[^\\n]*", "").replaceAll("\"[^\"\\n]*\"", "\"\"");
        for (String never : NEVER) {
            CHECK.no("has " + never, code.contains(never));
        }
        Matcher imports = Pattern.compile("import ([^;]*);").matcher(code);
        while (imports.find()) {
            CHECK.same("import", imports.group(1), "java.util.NoSuchElementException");
        }
        CHECK.no("a package", code.contains("package "));
        CHECK.yes("twelve classes at most", Pattern.compile("\\bclass \\w+").matcher(code).results().count() <= 12);
        for (String line : code.split("\n")) {
            if (line.matches(".*\\bstatic (?!final)[^(]*[;=].*")) {
                CHECK.same("a static field that is not final", line, "");
            }
        }
        methods(code.split("\n"));
        CHECK.close();
    }

    /** A method's head ends with { at four or eight blanks, and its end stands as far in. */
    private static void methods(String[] lines) {
        int seen = 0;
        for (int from = 0; from < lines.length; from++) {
            String head = lines[from];
            int first = from;
            Matcher begin = Pattern.compile("^( {4}| {8})(?=[a-zA-Z])(?!private static final class)[^=]*\\(.*").matcher(head);
            if (!begin.matches() || head.trim().startsWith("return") || head.trim().endsWith(";") || head.contains(" class ")
                    || head.trim().startsWith("if ") || head.trim().startsWith("for ") || head.trim().startsWith("switch ")) {
                continue;
            }
            while (!lines[first].endsWith("{")) {
                head += lines[++first];
            }
            int to = first;
            while (!lines[to].equals(begin.group(1) + "}")) {
                to++;
            }
            seen++;
            CHECK.yes("sixty lines at most: " + head.trim(), to - from < 60);
            String inside = head.substring(head.indexOf('(') + 1, head.indexOf(')'));
            CHECK.yes("seven parameters at most: " + head.trim(), inside.split(",").length <= 7);
        }
        CHECK.yes("methods were seen", seen > 100);
    }
}
