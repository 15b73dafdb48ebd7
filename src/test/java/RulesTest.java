import java.lang.reflect.Constructor;
import java.lang.reflect.Field;
import java.lang.reflect.Method;
import java.lang.reflect.Modifier;
import java.nio.charset.StandardCharsets;
import java.nio.file.Files;
import java.nio.file.Path;
import java.util.ArrayList;
import java.util.Arrays;
import java.util.List;
import java.util.Set;
import java.util.TreeSet;
import java.util.regex.Matcher;
import java.util.regex.Pattern;

/** LANGUAGE.md: the face by reflection, the rest by looking over the source (run from the project's folder). */
public final class RulesTest {
    private static final String FACE = "party(int,int) ofParty(int,int) become(int,int) as(int,int)"
        + " word(int,int,int,int) ofWord(int,int) set(int,int,int) fetch(int,int) pour(int,int,int)"
        + " object(int,int) thumb(int) say(int) stop() seconds(int) loose(int) then(int,int,int)"
        + " feed(long,int) text(int) law(int,int,int,int) best(int,int) leaves() game(int,int,int,int)"
        + " carried(int,int,int,int) explained(int,int) seed(int) voice(int,int,int) trace(int)"
        + " sheet(int,int,int) put(int,int,int) move(int,int,int,int,int) judge(int) image() restore()"
        + " tell(int) check() count(int) told(int) long:share(int,int) long:odds(int,int,int,int)";
    private static final Set<String> LIBRARY = new TreeSet<>(Arrays.asList("String", "Math", "System", "Integer",
        "Long", "StringBuilder", "ArrayList", "List", "Arrays", "Iterator", "Iterable", "Comparable"));

    public static void main(String[] args) throws Exception {
        face();
        Path source = Path.of("src/main/java/PailSpeech.java");
        String text = Files.readString(source, StandardCharsets.UTF_8);
        String code = text.replaceAll("(?s)/\\*.*?\\*/", " ").replaceAll("//[^\n]*", " ")
            .replaceAll("'(\\\\.|[^'\\\\])'", "0").replaceAll("\"[^\"]*\"", "\"\"");
        order(text);
        words(code);
        names(code);
        methods(text);
        Due.end();
    }

    private static void face() {
        Class<?> c = PailSpeech.class;
        Set<String> due = new TreeSet<>(Arrays.asList(FACE.split(" ")));
        Set<String> open = new TreeSet<>();
        Set<String> hidden = new TreeSet<>();
        for (Method m : c.getDeclaredMethods()) {
            if (m.isSynthetic()) {
                continue;
            }
            if (Modifier.isPrivate(m.getModifiers())) {
                hidden.add(m.getName());
                continue;
            }
            List<String> types = new ArrayList<>();
            for (Class<?> t : m.getParameterTypes()) {
                types.add(t.getName());
            }
            String of = m.getReturnType() == int.class ? "" : m.getReturnType().getName() + ":";
            open.add(of + m.getName() + "(" + String.join(",", types) + ")");
            yes(m + " is public", Modifier.isPublic(m.getModifiers()) && !Modifier.isStatic(m.getModifiers()));
        }
        yes("the face " + open, open.equals(due));
        for (Method m : c.getDeclaredMethods()) {
            yes("no private " + m.getName(), !Modifier.isPublic(m.getModifiers()) || !hidden.contains(m.getName()));
        }
        yes("public and final", c.getModifiers() == (Modifier.PUBLIC | Modifier.FINAL));
        Constructor<?>[] makers = c.getDeclaredConstructors();
        yes("one constructor", makers.length == 1 && makers[0].getParameterCount() == 0
            && Modifier.isPublic(makers[0].getModifiers()));
        fields(c);
        for (Class<?> inner : c.getDeclaredClasses()) {
            yes(inner + " is static", Modifier.isStatic(inner.getModifiers()));
            yes(inner + " is hidden", !Modifier.isPublic(inner.getModifiers()));
            fields(inner);
        }
        yes("some twelve classes", c.getDeclaredClasses().length <= 12);
    }

    private static void fields(Class<?> c) {
        int own = 0;
        for (Field f : c.getDeclaredFields()) {
            boolean fixed = Modifier.isStatic(f.getModifiers());
            yes(f + " is final", !fixed || Modifier.isFinal(f.getModifiers()));
            yes(f + " is hidden", c != PailSpeech.class || Modifier.isPrivate(f.getModifiers()));
            own += fixed ? 0 : 1;
        }
        yes(c + " has some twenty fields", own <= 20);
    }

    /** The calls in the order of the document's face, and what the interface says ahead of them. */
    private static void order(String text) {
        String[][] parts = {{"parties, words", "party ofParty become as word ofWord set"},
            {"water", "fetch pour object thumb"}, {"the hearing", "say stop seconds loose then"},
            {"texts", "feed text law"}, {"what would be best", "best share leaves game odds carried explained"},
            {"draws, voices, sheets, images, what is told",
                "seed voice trace sheet put move judge image restore tell check count told"}};
        int at = 0;
        for (String[] part : parts) {
            int head = text.indexOf("    // ---- " + part[0] + "\n", at);
            yes("---- " + part[0], head >= at);
            at = Math.max(at, head);
            for (String name : part[1].split(" ")) {
                Matcher m = Pattern.compile("    public (int|long) (\\w+)\\(").matcher(text);
                boolean is = m.find(at + 1) && m.group(2).equals(name);
                yes(name + " stands in its place", is);
                at = is ? m.start() : at;
            }
        }
    }

    private static void words(String code) {
        String[] out = {"throw", "throws", "try", "catch", "synchronized", "assert", "import", "package", "record",
            "yield", "protected", "volatile", "native", "transient", "Object", "Exception", "hashCode", "toString"};
        for (String word : out) {
            yes("no " + word, !Pattern.compile("\\b" + word + "\\b").matcher(code).find());
        }
        for (String sign : new String[] {"->", "::", "@", "static {", "Exact("}) {
            yes("no " + sign, !code.contains(sign));
        }
        for (int i = 0; i < code.length(); i++) {
            if (code.charAt(i) > 126) {
                yes("sign " + (int) code.charAt(i), false);
            }
        }
    }

    private static void names(String code) {
        Set<String> own = new TreeSet<>();
        Matcher m = Pattern.compile("\\bclass (\\w+)").matcher(code);
        while (m.find()) {
            own.add(m.group(1));
        }
        Matcher n = Pattern.compile("\\b[A-Z]\\w*[a-z]\\w*\\b").matcher(code);
        while (n.find()) {
            yes("known name " + n.group(), own.contains(n.group()) || LIBRARY.contains(n.group()));
        }
    }

    private static void methods(String text) {
        String name = null;
        String indent = "";
        int start = 0;
        String[] lines = text.split("\n");
        Pattern head = Pattern.compile("^(        |    )(?! |return|if|for|while|switch|else)[\\w\\[\\] ]*?(\\w+)\\((.*)\\) \\{$");
        for (int i = 0; i < lines.length; i++) {
            Matcher m = head.matcher(lines[i]);
            if (name == null && m.matches()) {
                name = m.group(2);
                indent = m.group(1);
                start = i;
                yes(name + ": at most seven parameters", m.group(3).split(",").length <= 7);
            } else if (name != null && lines[i].equals(indent + "}")) {
                yes(name + ": some sixty lines", i - start <= 60);
                name = null;
            }
        }
    }

    private static void yes(String what, boolean is) {
        Due.is(what, is ? 1 : 0, 1);
    }
}
