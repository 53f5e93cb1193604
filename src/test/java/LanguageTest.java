import java.io.IOException;
import java.lang.reflect.Field;
import java.lang.reflect.Member;
import java.lang.reflect.Method;
import java.lang.reflect.Modifier;
import java.nio.file.Files;
import java.nio.file.Path;
import java.util.Arrays;
import java.util.List;
import java.util.Set;
import java.util.TreeSet;
import java.util.regex.Matcher;
import java.util.regex.Pattern;

/** What of ../shared/LANGUAGE.md can be seen from the file's text and from the compiled class. */
public final class LanguageTest {
    private static final Checks checks = new Checks();
    private static final List<String> FACE = List.of("body(int,int,int,int)int", "set(int,int,int)int", "drop()int",
            "field(int,int)int", "bend(int,int,int,int,int)int", "from(int,int,int)int", "cell(int,int,int)int",
            "pictures(int,int,int)int", "group(int,int,int,int)int", "parity(int,int)int", "critical(int,int)int",
            "rings(int)int", "brightest(int)int", "delay(int,int,int,int,int,int)long", "stretch(int)int",
            "type(long,int)int", "clear()int", "read()int", "pair(int,int,int,int)int", "wipe()int",
            "tolerance(int,int)int", "fits(int,int,int)int", "models(int,int,int)int", "sure(int,int,int)int",
            "spot(int,int)int", "forget()int", "bright(int,int,int)int", "far(int,int)int", "contradicts()int",
            "filled(int,int)int", "count(int)int", "trace()long");

    public static void main(String[] args) throws IOException {
        String source = Files.readString(Path.of("src/main/java/LensBench.java"));
        String code = source.replaceAll("(?s)/\\*.*?\\*/", "").replaceAll("//[^\n]*", "");
        face();
        members();
        forbiddenWords(code);
        lengths(code);
        checks.end();
    }

    private static void face() {
        Set<String> found = new TreeSet<>();
        for (Method method : LensBench.class.getDeclaredMethods()) {
            if (!Modifier.isPrivate(method.getModifiers())) {
                checks.dueTrue("public: " + method, Modifier.isPublic(method.getModifiers()));
                String parameters = String.join(",", Arrays.stream(method.getParameterTypes()).map(Class::getName).toList());
                found.add(method.getName() + "(" + parameters + ")" + method.getReturnType().getName());
            }
        }
        checks.dueTrue("the face: " + found, found.equals(new TreeSet<>(FACE)));
        Set<String> constants = new TreeSet<>();
        for (Field field : LensBench.class.getDeclaredFields()) {
            if (!Modifier.isPrivate(field.getModifiers())) {
                constants.add(field.getName());
            }
        }
        checks.dueTrue("the constants: " + constants, constants.equals(Set.of("BAD", "STATE", "FULL", "NONE", "NO")));
        checks.due("constructors", LensBench.class.getDeclaredConstructors().length, 1);
        checks.dueTrue("final", Modifier.isFinal(LensBench.class.getModifiers()));
    }

    private static void members() {
        Set<String> publicNames = new TreeSet<>();
        FACE.forEach(one -> publicNames.add(one.substring(0, one.indexOf('('))));
        Class<?>[] inside = LensBench.class.getDeclaredClasses();
        checks.dueTrue("at most twelve classes", inside.length < 12);
        for (Class<?> one : inside) {
            checks.dueTrue("static: " + one, Modifier.isStatic(one.getModifiers()));
            checks.dueTrue("not public: " + one, !Modifier.isPublic(one.getModifiers()));
            membersOf(one, publicNames);
        }
        membersOf(LensBench.class, Set.of());
    }

    private static void membersOf(Class<?> one, Set<String> taken) {
        for (Member method : one.getDeclaredMethods()) {
            checks.dueTrue("a name of its own: " + method, !taken.contains(method.getName()));
        }
        int fields = 0;
        for (Field field : one.getDeclaredFields()) {
            boolean isStatic = Modifier.isStatic(field.getModifiers());
            fields += isStatic ? 0 : 1;
            checks.dueTrue("final: " + field, !isStatic || Modifier.isFinal(field.getModifiers()));
        }
        checks.dueTrue("at most twenty fields: " + one, fields <= 20);
        for (Method method : one.getDeclaredMethods()) {
            checks.dueTrue("at most seven parameters: " + method, method.getParameterCount() <= 7);
        }
    }

    private static void forbiddenWords(String code) {
        for (String word : List.of("throw", "throws", "try", "catch", "finally", "synchronized", "assert", "protected",
                "package", "volatile", "native", "Object", "Random", "System.out", "Thread", "static\\s*\\{")) {
            checks.dueTrue("without " + word, !Pattern.compile("\\b" + word + (word.endsWith("{") ? "" : "\\b")).matcher(code).find());
        }
        checks.dueTrue("without lambdas", !code.contains("->"));
        checks.dueTrue("without method references", !code.contains("::"));
        checks.dueTrue("without Exact", !code.contains("Exact"));
        Matcher imports = Pattern.compile("import ([^;]+);").matcher(code);
        while (imports.find()) {
            checks.dueTrue("import " + imports.group(1), Set.of("java.util.Arrays", "java.util.ArrayList", "java.util.List",
                    "java.util.Iterator").contains(imports.group(1)));
        }
        checks.dueTrue("signs 1 to 127", code.chars().allMatch(sign -> sign > 0 && sign < 128));
    }

    private static void lengths(String code) {
        int depth = 0;
        int begun = 0;
        String[] lines = code.split("\n");
        for (int i = 0; i < lines.length; i++) {
            String line = lines[i];
            int indent = line.length() - line.stripLeading().length();
            if ((indent == 4 || indent == 8) && line.endsWith("{") && line.contains("(")) {
                begun = i;
                depth = indent;
            }
            if (line.strip().equals("}") && indent == depth) {
                checks.dueTrue("at most sixty lines from line " + (begun + 1), i - begun <= 60);
            }
        }
    }
}
