import java.io.IOException;
import java.nio.file.Files;
import java.nio.file.Path;
import java.util.ArrayList;
import java.util.HashSet;
import java.util.List;
import java.util.Set;
import java.util.regex.Matcher;
import java.util.regex.Pattern;

/** Some rules of LANGUAGE.md that the source's own lines can tell. */
public final class LanguageTests {
    private static final Checks CHECKS = new Checks();
    private static final String[] FORBIDDEN = {"throw", "throws", "try", "catch", "finally",
        "synchronized", "assert", "import", "package", "protected", "instanceof", "lambda", "equals",
        "hashCode", "toString", "double", "float", "Object", "Exception"};

    private static String withoutComments(String source) {
        return source.replaceAll("(?s)/\\*.*?\\*/", " ").replaceAll("//[^\n]*", " ");
    }

    private static void words(String code) {
        for (String word : FORBIDDEN) {
            boolean there = Pattern.compile("\\b" + word + "\\b").matcher(code).find();
            CHECKS.due("the word " + word, there, false);
        }
        CHECKS.due("->", code.contains("->"), false);
        CHECKS.due("::", code.contains("::"), false);
        for (int i = 0; i < code.length(); i++) {
            if (code.charAt(i) > 126) {
                CHECKS.due("a sign above 126 at " + i, 1, 0);
            }
        }
    }

    private static void methods(String code) {
        Pattern head = Pattern.compile("(?m)^( +)((?:public |private |static |final )*)"
                + "(?:[\\w\\[\\]]+ )?(\\w+)\\(([^)]*)\\) \\{$");
        Matcher found = head.matcher(code);
        Set<String> open = new HashSet<>();
        List<String> hidden = new ArrayList<>();
        while (found.find()) {
            String end = "\n" + found.group(1) + "}";
            int last = code.indexOf(end, found.end());
            long lines = code.substring(found.start(), last).lines().count();
            CHECKS.due("a long method " + found.group(3), lines > 60, false);
            CHECKS.due("parameters of " + found.group(3), found.group(4).split(",").length > 7,
                    false);
            if (found.group(2).contains("public")) {
                open.add(found.group(3));
            } else if (!found.group(3).matches("if|for|while|switch")) {
                hidden.add(found.group(3));
            }
        }
        CHECKS.due("public methods and the constructor", open.size(), 29);
        for (String name : hidden) {
            CHECKS.due("hidden bears a public name: " + name, open.contains(name), false);
        }
        CHECKS.due("methods were found", hidden.size() > 50, true);
    }

    private static void classes(String code) {
        Matcher found = Pattern.compile("(?m)^ +private static final class \\w+ \\{$").matcher(code);
        int many = 1;
        while (found.find()) {
            many++;
        }
        CHECKS.due("classes", many <= 12, true);
        int all = code.split("\\bclass\\b").length - 1;
        CHECKS.due("all of them are static", all, many);
    }

    public static void main(String[] args) throws IOException {
        String code = withoutComments(Files.readString(Path.of("src/main/java/QueenBelt.java")));
        words(code);
        methods(code);
        classes(code);
        CHECKS.end();
    }
}
