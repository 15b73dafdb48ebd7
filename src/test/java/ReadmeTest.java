import java.lang.reflect.Method;
import java.lang.reflect.Modifier;
import java.nio.charset.StandardCharsets;
import java.nio.file.Files;
import java.nio.file.Path;
import java.util.regex.Matcher;
import java.util.regex.Pattern;

/** README.md tells of every call, and its example answers as it says (run from the project's folder). */
public final class ReadmeTest {
    private static final int CALLS = 39;
    private static String page;
    private static int lines;

    public static void main(String[] args) throws Exception {
        page = Files.readString(Path.of("README.md"), StandardCharsets.UTF_8);
        calls();
        example();
        for (int error = Due.KIND; error <= Due.BEYOND; error++) {
            Due.is("README tells of " + error, page.contains("| " + error + " |") ? 1 : 0, 1);
        }
        Due.is("README tells of 512 calls", page.contains("512 calls") ? 1 : 0, 1);
        Due.end();
    }

    /** Each call has a line of its own, with as many numbers as it takes. */
    private static void calls() {
        int many = 0;
        for (Method m : PailSpeech.class.getDeclaredMethods()) {
            if (!Modifier.isPublic(m.getModifiers())) {
                continue;
            }
            many++;
            Matcher line = Pattern.compile("(?m)^\\| `" + m.getName() + "\\(([^)]*)\\)` \\|").matcher(page);
            boolean is = line.find();
            Due.is("README tells of " + m.getName(), is ? 1 : 0, 1);
            String taken = is ? line.group(1) : "";
            Due.is("README: numbers of " + m.getName(), taken.isEmpty() ? 0 : taken.split(",").length,
                m.getParameterCount());
        }
        Due.is("calls", many, CALLS);
    }

    private static void example() {
        PailSpeech court = new PailSpeech();
        int one = court.party(0, 60);
        line("court.party(0, 60)", one);
        int other = court.party(14, 80);
        line("court.party(14, 80)", other);
        line("court.fetch(one, 45)", court.fetch(one, 45));
        int word = court.word(one, 3, 10, -1);
        line("court.word(one, 3, 10, -1)", word);
        line("court.best(1, -2)", court.best(1, -2));
        line("court.say(word)", court.say(word));
        line("court.seconds(3)", court.seconds(3));
        line("court.ofParty(one, 4)", court.ofParty(one, 4));
        line("court.pour(other, one, 5)", court.pour(other, one, 5));
        line("court.told(3)", court.told(3));
        Matcher all = Pattern.compile("(?m)^.*court\\.\\w+\\(.*; +// -?\\d+:").matcher(page);
        int told = 0;
        while (all.find()) {
            told++;
        }
        Due.is("lines of the example", told, lines);
    }

    /** The example has this call, and says that it answers this. */
    private static void line(String call, int answer) {
        lines++;
        Matcher m = Pattern.compile("(?m)^.*" + Pattern.quote(call) + "; +// (-?\\d+):").matcher(page);
        boolean is = m.find();
        Due.is("README has " + call, is ? 1 : 0, 1);
        Due.is("README: " + call, is ? Long.parseLong(m.group(1)) : Long.MIN_VALUE, answer);
    }
}
