import java.io.IOException;
import java.nio.file.Files;
import java.nio.file.Path;
import java.util.ArrayList;
import java.util.HashSet;
import java.util.List;
import java.util.Set;
import java.util.regex.Matcher;
import java.util.regex.Pattern;

/** Some rules of LANGUAGE.md that the source's own lines can tell. */
public final class LanguageTests {
    private static final Checks CHECKS = new Checks();
    private static final String[] FORBIDDEN = {"throw", "throws", "try", "catch", "finally",
        "synchronized", "assert", "import", "package", "protected", "instanceof", "lambda", "equals",
        "hashCode", "toString", "double", "float", "Object", "Exception"};

    private static String withoutComments(String source) {
        return source.replaceAll("(?s)/\\*.*?\\*/", " ").replaceAll("//[^\n]*", " ");
    }

    private static void words(String code) {
        for (String word : FORBIDDEN) {
            boolean there = Pattern.compile("\\b" + word + "\\b").matcher(code).find();
            CHECKS.due("the word " + word, there, false);
        }
        CHECKS.due("->", code.contains("->"), false);
        CHECKS.due("::", code.contains("::"), false);
        for (int i = 0; i < code.length(); i++) {
            if (code.charAt(i) > 126) {
                CHECKS.due("a sign above 126 at " + i, 1, 0);
            }
        }
    }

    private static void methods(String code) {
        Pattern head = Pattern.compile("(?m)^( +)((?:public |private |static |final )*)"
                + "(?:[\\w\\[\\]]+ )?(\\w+)\\(([^)]*)\\) \\{$");
        Matcher found = head.matcher(code);
        Set<String> open = new HashSet<>();
        List<String> hidden = new ArrayList<>();
        while (found.find()) {
            String end = "\n" + found.group(1) + "}";
            int last = code.indexOf(end, found.end());
            long lines = code.substring(found.start(), last).lines().count();
            CHECKS.due("a long method " + found.group(3), lines > 60, false);
            CHECKS.due("parameters of " + found.group(3), found.group(4).split(",").length > 7,
                    false);
            if (found.group(2).contains("public")) {
                open.add(found.group(3));
            } else if (!found.group(3).matches("if|for|while|switch")) {
                hidden.add(found.group(3));
            }
        }
        CHECKS.due("public methods and the constructor", open.size(), 29);
        for (String name : hidden) {
            CHECKS.due("hidden bears a public name: " + name, open.contains(name), false);
        }
        CHECKS.due("methods were found", hidden.size() > 50, true);
    }

    private static void classes(String code) {
        Matcher found = Pattern.compile("(?m)^ +private static final class \\w+ \\{$").matcher(code);
        int many = 1;
        while (found.find()) {
            many++;
        }
        CHECKS.due("classes", many <= 12, true);
        int all = code.split("\\bclass\\b").length - 1;
        CHECKS.due("all of them are static", all, many);
    }

    /** Fields stand at a class's first level of indentation, end with ; and are called by no (. */
    private static void fields(String code) {
        String[] parts = code.split("(?m)^ {4}private static final class ");
        Pattern field = Pattern.compile("(?m)^( {4}| {8})(?!return|break|continue)"
                + "((?:private |public |static |final )*)[\\w\\[\\]]+ \\w+( =[^;]*)?;");
        int all = 0;
        for (int i = 0; i < parts.length; i++) {
            Matcher found = field.matcher(parts[i]);
            int many = 0;
            while (found.find()) {
                boolean constant = found.group(2).contains("static ");
                boolean inside = found.group(1).length() == (i == 0 ? 4 : 8);
                many += inside && !constant ? 1 : 0;
                CHECKS.due("a static field that is not final in part " + i,
                        constant && !found.group(2).contains("final "), false);
            }
            CHECKS.due("fields of part " + i, many <= 20, true);
            all += many;
        }
        CHECKS.due("fields were found", all > 40, true);
        CHECKS.due("texts joined by +", Pattern.compile("\" \\+|\\+ \"").matcher(code).find(), false);
    }

    public static void main(String[] args) throws IOException {
        String code = withoutComments(Files.readString(Path.of("src/main/java/QueenBelt.java")));
        words(code);
        methods(code);
        classes(code);
        fields(code);
        CHECKS.end();
    }
}
