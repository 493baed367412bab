import java.io.IOException;
import java.nio.file.Files;
import java.nio.file.Path;
import java.util.List;
import java.util.regex.Matcher;
import java.util.regex.Pattern;

/** Rules of LANGUAGE.md that can be seen in the text of the program; it is run where README.md stands. */
public final class LanguageTest {
    private static final Checks C = new Checks();

    public static void main(String[] args) throws IOException {
        String source = Files.readString(Path.of("src/main/java/DepotCharge.java"));
        C.yes("signs 1 to 127 alone", source.chars().allMatch(c -> c > 0 && c < 128));
        String code = source.replaceAll("(?s)/\\*.*?\\*/", "").replaceAll("//[^\n]*", "").replaceAll("\"[^\"\n]*\"", "\"\"");
        for (String word : List.of("->", "::", "Exact", "finally", "synchronized", "assert ", "catch", "package ", "Object",
            "Random", "System.nano", "System.current", "System.out", "Thread", "protected ", "instanceof", "Iterator", "Map")) {
            C.no("no '" + word + "'", code.contains(word));
        }
        Matcher imports = Pattern.compile("import ([^;]*);").matcher(code);
        while (imports.find()) {
            C.yes(imports.group(), List.of("java.util.Arrays", "java.util.NoSuchElementException").contains(imports.group(1)));
        }
        Matcher fields = Pattern.compile("\n *(private )?static (?!final)[^(\n]*;").matcher(code);
        C.no("static fields are final", fields.find());
        C.yes("at most twelve classes", code.split("\\bclass\\b").length - 1 <= 12);
        methods(code);
        C.finish();
    }

    private static void methods(String code) {
        Matcher heads = Pattern.compile("\n( +)[a-zA-Z][^=;\n]*\\(([^)\n]*)\\)[^;\n]*\\{\n").matcher(code);
        while (heads.find()) {
            if (heads.group().matches("(?s)\n +(if|for|while|switch|\\}).*")) {
                continue;
            }
            int end = code.indexOf("\n" + heads.group(1) + "}", heads.end() - 1);
            C.yes("some sixty lines: " + heads.group().trim(), code.substring(heads.end(), end + 1).lines().count() <= 60);
            C.yes("seven parameters: " + heads.group().trim(), heads.group(2).split(",").length <= 7);
        }
    }
}
