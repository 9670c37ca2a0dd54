import java.io.IOException;
import java.lang.reflect.Field;
import java.lang.reflect.Member;
import java.lang.reflect.Method;
import java.lang.reflect.Modifier;
import java.nio.file.Files;
import java.nio.file.Path;
import java.util.Set;
import java.util.TreeSet;
import java.util.regex.Matcher;
import java.util.regex.Pattern;

/** The public face of the document, and those rules of ../shared/LANGUAGE.md that can be seen from outside or by words. */
public final class FaceTest {
    private static final Path SOURCE = Path.of("src", "main", "java", "PointerHouse.java");

    public static void main(String[] args) throws IOException {
        face();
        classesInside();
        forbiddenWords();
        House.finish();
    }

    private static String told(Method m) {
        StringBuilder text = new StringBuilder(m.getReturnType().getSimpleName() + " " + m.getName() + "(");
        for (Class<?> type : m.getParameterTypes()) {
            text.append(text.charAt(text.length() - 1) == '(' ? "" : ", ").append(type.getSimpleName());
        }
        return text.append(")").toString();
    }

    private static boolean isHidden(Member m) {
        return Modifier.isPrivate(m.getModifiers()) || m.isSynthetic();
    }

    private static void face() {
        House.sentence("The public face (and no other member that is not private)");
        House.due("public and final", Modifier.PUBLIC | Modifier.FINAL, PointerHouse.class.getModifiers());
        House.due("NONE", -1, PointerHouse.NONE);
        Set<String> want = new TreeSet<>(Set.of("int feed(int, int, int, int, int)", "int end(int)", "int build()", "int fault(int)", "int program(int)",
                "boolean start(int, int)", "int input(int)", "int run(int)", "int state(int)", "int world(int)", "int region(int, int)", "int printed(int)"));
        Set<String> got = new TreeSet<>();
        Set<String> names = new TreeSet<>();
        for (Method m : PointerHouse.class.getDeclaredMethods()) {
            if (!isHidden(m)) {
                got.add(told(m));
                names.add(m.getName());
                House.due(told(m) + " is public, not static", Modifier.PUBLIC, m.getModifiers());
            }
        }
        House.due("whether the face is " + want + ", not " + got, true, want.equals(got));
        for (Method m : PointerHouse.class.getDeclaredMethods()) {
            House.due("a private method with the public name " + m.getName(), false, isHidden(m) && names.contains(m.getName()));
        }
        for (Field f : PointerHouse.class.getDeclaredFields()) {
            House.due("whether " + f.getName() + " is hidden", !f.getName().equals("NONE"), isHidden(f));
        }
        House.due("constructors", 1, PointerHouse.class.getDeclaredConstructors().length);
        House.due("the constructor is public", Modifier.PUBLIC, PointerHouse.class.getDeclaredConstructors()[0].getModifiers());
    }

    private static void classesInside() {
        House.sentence("Rules 1, 2, 5, 11: classes inside are static; static fields are final; at most seven parameters, some twelve classes");
        House.due("at most twelve classes", true, PointerHouse.class.getDeclaredClasses().length + 1 <= 12);
        for (Class<?> inner : PointerHouse.class.getDeclaredClasses()) {
            House.due(inner.getName() + " is static", true, Modifier.isStatic(inner.getModifiers()));
            for (Method m : inner.getDeclaredMethods()) {
                House.due(m.getName() + " has at most seven parameters", true, m.getParameterCount() <= 7);
            }
            int fields = 0;
            for (Field f : inner.getDeclaredFields()) {
                boolean fixed = Modifier.isStatic(f.getModifiers());
                House.due(f.getName() + " is final if static", true, !fixed || Modifier.isFinal(f.getModifiers()));
                fields += fixed ? 0 : 1;
            }
            House.due(inner.getName() + " has some twenty fields", true, fields <= 22);
        }
    }

    private static void forbiddenWords() throws IOException {
        House.sentence("Rules 2, 4, 6, 13: no throw, try, catch, synchronized, assert, lambda, clock, random source ..");
        String code = Files.readString(SOURCE).replaceAll("(?s)/\\*.*?\\*/", " ").replaceAll("//[^\n]*", " ")
                .replaceAll("\"(\\\\.|[^\"\\\\])*\"", "\"\"").replaceAll("'(\\\\.|[^'\\\\])'", "' '");
        Matcher m = Pattern.compile("\\b(throw|throws|try|catch|finally|synchronized|assert|package|native|volatile|transient|hashCode|toString|"
                + "Random|Thread|nanoTime|currentTimeMillis|Object|Exact)\\b|->|::").matcher(code);
        House.due("whether there is none of them" + (m.find() ? ": " + m.group() : ""), true, !m.reset().find());
        Matcher imports = Pattern.compile("(?m)^import (.*);$").matcher(code);
        while (imports.find()) {
            House.due("whether " + imports.group(1) + " may be used", true, imports.group(1).equals("java.util.Arrays"));
        }
    }
}
