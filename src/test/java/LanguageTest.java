import java.io.IOException;
import java.nio.file.Files;
import java.nio.file.Path;
import java.util.List;
import java.util.regex.Matcher;
import java.util.regex.Pattern;

/** Some rules of ../shared/LANGUAGE.md that the program's text shows; run it in the project's folder. */
public final class LanguageTest {
    private static final List<String> FORBIDDEN = List.of("->", "::", "\\bfinally\\b", "\\bsynchronized\\b",
        "\\bassert\\b", "\\bvolatile\\b", "\\bcatch\\b", "\\btry\\b", "\\bvar\\b", "\\byield\\b", "\\bpackage\\b",
        "\\bObject\\b", "\\bhashCode\\b", "\\bequals\\b", "\\bSystem\\.(?!arraycopy)", "Exact\\b", "\\bThread\\b",
        "\\bextends\\b", "\\bstatic\\s*\\{", "\\bprotected\\b", "\\bMap\\b", "\\bSet\\b", "\\bStream\\b");
    private static final Pattern IMPORT = Pattern.compile("\\bimport\\s+([\\w.]+);");
    private static final Pattern THROW = Pattern.compile("\\bthrow\\b(?! new (IndexOutOfBounds|IllegalState"
        + "|IllegalArgument)Exception\\(\"\"\\);)");
    private static final Pattern METHOD = Pattern.compile(
        "^ {4,8}(?:(?:public|private|static) )*(?:[\\w\\[\\]]+ )?(\\w+)\\(([^()]*)\\)[^;{}=]*\\{$", Pattern.MULTILINE);
    private static final List<String> FACE = List.of("say", "judge", "fault", "size", "hypotheses", "symbol",
        "typeSymbol", "cut", "keep");

    public static void main(String[] args) throws IOException {
        String text = Files.readString(Path.of("src/main/java/TraceJudge.java"));
        Checks.that("characters 0 to 127 alone", text.chars().allMatch(c -> c < 128));
        String code = withoutComments(text);
        for (String word : FORBIDDEN) {
            Checks.that("no " + word, !Pattern.compile(word).matcher(code).find());
        }
        Matcher imports = IMPORT.matcher(code);
        while (imports.find()) {
            Checks.that("import " + imports.group(1), imports.group(1).equals("java.util.Arrays"));
        }
        Checks.that("throws as rule 6 says", !THROW.matcher(code).find());
        Checks.that("at most 12 classes", code.split("\\bclass\\b").length - 1 <= 12);
        methods(code);
        Checks.end();
    }

    private static String withoutComments(String text) {
        return text.replaceAll("(?s)/\\*.*?\\*/", "").replaceAll("//[^\n]*", "").replaceAll("\"[^\"\n]*\"", "\"\"");
    }

    private static void methods(String code) {
        Matcher methods = METHOD.matcher(code);
        int found = 0;
        while (methods.find()) {
            found++;
            String name = methods.group(1);
            Checks.that(name + " takes at most seven", methods.group(2).split(",").length <= 7);
            Checks.that(name + " is of the face, or has another name",
                !FACE.contains(name) || methods.group().contains("public"));
            Checks.that(name + " has at most 60 lines", linesOf(code, methods.end()) <= 60);
        }
        Checks.that("methods were found", found > 90);
    }

    private static int linesOf(String code, int from) {
        int open = 1;
        int lines = 2;
        for (int at = from; open > 0 && at < code.length(); at++) {
            char c = code.charAt(at);
            open += c == '{' ? 1 : c == '}' ? -1 : 0;
            lines += c == '\n' ? 1 : 0;
        }
        return lines;
    }
}
