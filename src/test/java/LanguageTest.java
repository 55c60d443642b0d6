import java.io.IOException;
import java.lang.reflect.Member;
import java.lang.reflect.Modifier;
import java.nio.file.Files;
import java.nio.file.Path;
import java.util.ArrayList;
import java.util.List;
import java.util.Set;
import java.util.TreeSet;
import java.util.regex.Matcher;
import java.util.regex.Pattern;
import java.util.stream.Stream;

/** What of ../shared/LANGUAGE.md can be seen without reading: the face, and words that the class may not use. */
final class LanguageTest {
    private static final Set<String> FACE = new TreeSet<>(List.of("feed", "end", "fault", "village", "person", "earned",
        "two", "think", "shown", "liking", "sooner", "best", "act", "silent", "bar", "price", "waits", "way", "seed",
        "green", "may", "join", "part", "log", "blocks", "parents", "life", "never", "pairs", "image", "on", "status",
        "count", "NONE", "VOID"));
    private static final Due due = new Due("LanguageTest");

    public static void main(String[] args) throws IOException {
        face();
        String source = Files.readString(Path.of("src/main/java/MayGreen.java"));
        String code = source.replaceAll("(?s)/\\*.*?\\*/", "").replaceAll("//[^\n]*", "").replaceAll("\"[^\"]*\"", "\"\"");
        words(code);
        methods(code);
        due.close();
    }

    private static void face() {
        Set<String> seen = new TreeSet<>();
        Set<String> hidden = new TreeSet<>();
        Stream.concat(Stream.of(MayGreen.class.getDeclaredMethods()), Stream.of(MayGreen.class.getDeclaredFields()))
            .forEach(member -> (isPrivate(member) ? hidden : seen).add(member.getName()));
        due.is("the face " + seen, seen.equals(FACE), true);
        for (Class<?> inside : MayGreen.class.getDeclaredClasses()) {
            due.is(inside + " is static", Modifier.isStatic(inside.getModifiers()), true);
            due.is(inside + "'s fields", Stream.of(inside.getDeclaredFields())
                .filter(field -> !Modifier.isStatic(field.getModifiers())).count() <= 20, true);
            Stream.of(inside.getDeclaredMethods()).forEach(method -> hidden.add(method.getName()));
        }
        Stream.of(MayGreen.class.getDeclaredFields()).forEach(field -> hidden.remove(field.getName()));
        for (String name : hidden) {
            due.is("a hidden " + name, FACE.contains(name), false);
        }
        due.is("at most 12 classes", MayGreen.class.getDeclaredClasses().length < 12, true);
        due.is("public and final", MayGreen.class.getModifiers(), Modifier.PUBLIC | Modifier.FINAL);
    }

    private static boolean isPrivate(Member member) {
        return Modifier.isPrivate(member.getModifiers());
    }

    private static void words(String code) {
        for (String word : List.of("throw", "throws", "try", "catch", "finally", "synchronized", "assert", "import",
                "package", "->", "::", "instanceof", "hashCode", "toString", "@", "System", "Thread", "Integer", "String\\[",
                "float", "double", "record", "interface", "extends", "implements", "native", "strictfp", "Random")) {
            String whole = word.matches("[a-zA-Z]+") ? "\\b" + word + "\\b" : word;
            due.is("without " + word, Pattern.compile(whole).matcher(code).find(), false);
        }
    }

    private static void methods(String code) {
        String[] lines = code.split("\n");
        Matcher head = Pattern.compile("(?m)^( +)(?:[a-zA-Z\\[\\]]+ )+[a-zA-Z]+\\(([^)]*)\\) \\{$").matcher(code);
        List<Integer> lengths = new ArrayList<>();
        while (head.find()) {
            int first = (int) code.substring(0, head.start()).chars().filter(sign -> sign == '\n').count();
            int last = first;
            while (!lines[last].equals(head.group(1) + "}")) {
                last++;
            }
            lengths.add(last - first + 1);
            due.is("parameters of " + head.group().strip(), head.group(2).split(",").length <= 7, true);
            due.is("lines of " + head.group().strip(), last - first + 1 <= 60, true);
        }
        due.is("methods were seen", lengths.size() > 100, true);
    }
}
