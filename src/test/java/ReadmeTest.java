import java.io.IOException;
import java.lang.reflect.Method;
import java.lang.reflect.Modifier;
import java.nio.file.Files;
import java.nio.file.Path;
import java.util.Arrays;
import java.util.Set;
import java.util.TreeSet;
import java.util.regex.Matcher;
import java.util.regex.Pattern;

/** README.md's village: its text is what is fed, each call answers as it is told there, and no call is left out. */
final class ReadmeTest {
    private static final Pattern CALL = Pattern.compile("(?m)^green\\.(\\w+)\\(([^)]*)\\);\\s*// (-?\\w+)");
    private static final Pattern TEXT = Pattern.compile("(?s)```text\n(.*?)```");
    private static final Due due = new Due("ReadmeTest");

    public static void main(String[] args) throws IOException, ReflectiveOperationException {
        String page = Files.readString(Path.of("README.md"));
        Set<String> told = new TreeSet<>();
        MayGreen green = new MayGreen();
        Matcher call = CALL.matcher(page);
        while (call.find()) {
            told.add(call.group(1));
            due.is(call.group(1) + "(" + call.group(2) + ")", answer(green, call.group(1), call.group(2)), number(call.group(3)));
        }
        for (Method method : MayGreen.class.getDeclaredMethods()) {
            if (Modifier.isPublic(method.getModifiers())) {
                due.is(method.getName() + " is told", told.contains(method.getName()), true);
            }
        }
        textIsFed(page);
        due.close();
    }

    private static long answer(MayGreen green, String name, String told) throws ReflectiveOperationException {
        Object[] numbers = told.isEmpty() ? new Object[0]
            : Arrays.stream(told.split(", ")).map(word -> (Object) (int) number(word)).toArray();
        for (Method method : MayGreen.class.getDeclaredMethods()) {
            if (method.getName().equals(name) && method.getParameterCount() == numbers.length) {
                Object answer = method.invoke(green, numbers);
                return answer instanceof Boolean truth ? number(truth.toString()) : (Integer) answer;
            }
        }
        throw new IllegalStateException("no such call: " + name);
    }

    private static long number(String word) {
        return switch (word) {
            case "NONE" -> -1;
            case "VOID" -> Integer.MIN_VALUE;
            case "true" -> 1;
            case "false" -> 0;
            default -> Long.decode(word);
        };
    }

    /** The numbers that are fed are the text's bytes, and blanks behind them. */
    private static void textIsFed(String page) {
        Matcher text = TEXT.matcher(page);
        due.is("a village's text is told", text.find(), true);
        StringBuilder fed = new StringBuilder();
        Matcher call = CALL.matcher(page);
        while (call.find()) {
            if (call.group(1).equals("feed")) {
                for (String word : call.group(2).split(", ")) {
                    long number = number(word);
                    for (int shift = 24; shift >= 0; shift -= 8) {
                        fed.append((char) (number >> shift & 255));
                    }
                }
            }
        }
        due.is("the bytes are the text's", fed.toString().stripTrailing().equals(text.group(1).stripTrailing()), true);
        due.is("so many as end tells", text.group(1).length(), 129);
        due.is("it has no FAULT", Village.faultOf(text.group(1)), MayGreen.NONE);
    }
}
