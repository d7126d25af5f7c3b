import java.io.IOException;
import java.lang.reflect.Constructor;
import java.lang.reflect.Field;
import java.lang.reflect.Method;
import java.lang.reflect.Modifier;
import java.nio.charset.StandardCharsets;
import java.nio.file.Files;
import java.nio.file.Path;
import java.util.Arrays;
import java.util.Set;
import java.util.TreeSet;
import java.util.regex.Matcher;
import java.util.regex.Pattern;

/** What of ../shared/LANGUAGE.md can be seen in the file and in the class: run from the project's folder. */
public final class LanguageTest {
    private static final Due DUE = new Due("LanguageTest");
    private static final Path FILE = Path.of("src/main/java/WellNames.java");
    private static final String[] FACE = {
        "water(int,int)", "road(int,int,int)", "owe(int,int,int)", "ofWell(int,int)", "rain(int)", "person(int,int)",
        "ofPerson(int,int)", "become(int,int)", "as(int,int)", "feed(long,int)", "text(int)", "law(int,int,int,int)",
        "drink(int)", "go(int,int)", "pay(int,int,int)", "days(int)", "loose(int)", "same()", "soonest(int,int,int)",
        "drinks(int,int,int)", "reach(int,int,int)", "dry(int,int)", "net()", "shortest(int,int)", "walked(int)",
        "alive(int,int,int)", "grown(int,int,int)", "seed(int)", "voice(int,int,int)", "trace(int)",
        "sheet(int,int,int)", "put(int,int,int)", "move(int,int,int,int,int)", "waters(int)", "judge(int)", "image()",
        "restore()", "tell(int)", "check()", "count(int)", "told(int)",
    };

    public static void main(String[] args) throws IOException {
        face();
        for (Class<?> c : WellNames.class.getDeclaredClasses()) {
            inside(c);
        }
        DUE.so("at most twelve classes", WellNames.class.getDeclaredClasses().length < 12);
        fields(WellNames.class);
        String text = Files.readString(FILE, StandardCharsets.ISO_8859_1);
        DUE.so("signs are 1 to 127", text.chars().allMatch(c -> c > 0 && c < 128));
        words(text.replaceAll("(?s)/\\*.*?\\*/", " ").replaceAll("//[^\n]*", " "));
        lengths(text);
        made(text);
        DUE.end();
    }

    private static void face() {
        Set<String> found = new TreeSet<>();
        for (Method m : WellNames.class.getDeclaredMethods()) {
            if (!Modifier.isPrivate(m.getModifiers())) {
                DUE.so("rule 1: public, an int: " + m, Modifier.isPublic(m.getModifiers())
                    && !Modifier.isStatic(m.getModifiers()) && m.getReturnType() == int.class);
                String types = Arrays.toString(m.getParameterTypes()).replaceAll("[\\[\\] ]", "");
                found.add(m.getName() + "(" + types + ")");
            }
        }
        DUE.so("rule 1: the face: " + found, found.equals(new TreeSet<>(Arrays.asList(FACE))));
        Constructor<?>[] made = WellNames.class.getDeclaredConstructors();
        DUE.so("rule 1: one constructor", made.length == 1 && made[0].getParameterCount() == 0
            && Modifier.isPublic(made[0].getModifiers()));
        DUE.so("rule 1: final", Modifier.isFinal(WellNames.class.getModifiers()));
        for (Field f : WellNames.class.getDeclaredFields()) {
            DUE.so("rule 1: private: " + f, Modifier.isPrivate(f.getModifiers()));
        }
        for (Method m : WellNames.class.getDeclaredMethods()) {
            DUE.so("rule 1: no such name: " + m, !Modifier.isPrivate(m.getModifiers()) || isFree(m.getName()));
        }
    }

    private static boolean isFree(String name) {
        return Arrays.stream(FACE).noneMatch(f -> f.startsWith(name + "("));
    }

    private static void inside(Class<?> c) {
        DUE.so("rule 2: static, not public: " + c, Modifier.isStatic(c.getModifiers())
            && !Modifier.isPublic(c.getModifiers()) && !Modifier.isProtected(c.getModifiers()));
        DUE.so("rule 2: none deeper inside", c.getDeclaredClasses().length == 0);
        for (Method m : c.getDeclaredMethods()) {
            DUE.so("rule 1: no such name: " + m, isFree(m.getName()));
        }
        for (Constructor<?> made : c.getDeclaredConstructors()) {
            DUE.so("rule 12: takes no part of what is being made: " + made,
                Arrays.stream(made.getParameterTypes()).allMatch(Class::isPrimitive));
        }
        fields(c);
    }

    private static void fields(Class<?> c) {
        int own = 0;
        for (Field f : c.getDeclaredFields()) {
            boolean still = Modifier.isStatic(f.getModifiers());
            DUE.so("rule 5: final: " + f, !still || Modifier.isFinal(f.getModifiers()));
            own += still ? 0 : 1;
        }
        DUE.so("rule 11: some twenty fields: " + c, own <= 20);
        for (Method m : c.getDeclaredMethods()) {
            DUE.so("rule 11: seven parameters: " + m, m.getParameterCount() <= 7);
        }
    }

    private static void words(String code) {
        Matcher imports = Pattern.compile("\\bimport\\s+([^;]*);").matcher(code);
        while (imports.find()) {
            DUE.is("rule 4: import " + imports.group(1), 0, imports.group(1).compareTo("java.util.Arrays"));
        }
        String[] forbidden = {"throw", "throws", "try", "catch", "finally", "synchronized", "assert", "package", "var",
            "volatile", "transient", "native", "strictfp", "System\\.(?!arraycopy\\b)", "Math\\.\\w+Exact", "Random",
            "Thread", "Object", "hashCode", "toString", "equals", "yield"};
        for (String word : forbidden) {
            DUE.so("no " + word, !Pattern.compile("\\b" + word).matcher(code).find());
        }
        DUE.so("rule 2: no lambda, no method reference", !code.contains("->") && !code.contains("::"));
        DUE.so("rule 5: no static block", !Pattern.compile("static\\s*\\{").matcher(code).find());
    }

    /** Objects are made by fields and by constructors alone, so that no run of calls makes any (rule 12). */
    private static void made(String text) {
        String method = "";
        String end = "";
        for (String line : text.split("\n")) {
            if (method.isEmpty() && line.matches("( {4}| {8})\\w.*\\) \\{")) {
                method = line.trim();
                end = line.substring(0, line.indexOf(method)) + "}";
            } else if (line.equals(end)) {
                method = "";
            }
            boolean makes = Pattern.compile("\\bnew\\b|\\.clone\\(|Arrays\\.copyOf").matcher(line).find();
            boolean constructor = method.matches("(public )?[A-Z]\\w*\\(.*");
            boolean field = method.isEmpty() && line.matches(" +private static final .*| +(private )?final .*");
            DUE.so("rule 12: made in a call: " + line.trim(), !makes || constructor || field);
        }
    }

    private static void lengths(String text) {
        String[] lines = text.split("\n");
        int from = -1;
        for (int i = 0; i < lines.length; i++) {
            if (lines[i].matches("( {4}| {8})\\w.*\\(.*\\) \\{|( {4}| {8})(public|private|static|int|boolean|void) .*\\(.*")
                    && !lines[i].endsWith(";")) {
                from = i;
            } else if (from >= 0 && lines[i].matches("( {4}| {8})\\}")) {
                DUE.so("rule 11: some sixty lines: " + lines[from].trim(), i - from < 60);
                from = -1;
            }
        }
    }
}
