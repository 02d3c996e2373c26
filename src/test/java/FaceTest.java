import java.lang.reflect.Constructor;
import java.lang.reflect.Field;
import java.lang.reflect.Method;
import java.lang.reflect.Modifier;
import java.nio.file.Files;
import java.nio.file.Path;
import java.util.Arrays;
import java.util.List;
import java.util.Set;
import java.util.TreeSet;
import java.util.regex.Matcher;
import java.util.regex.Pattern;

/** The public face, and what of LANGUAGE.md can be seen from outside and in the source. */
public final class FaceTest {
    private static final int CALLS = 39;

    /** The calls of the document's face, as signature() writes them. */
    private static Set<String> documented() throws java.io.IOException {
        String page = Files.readString(Path.of("../shared/DOC.md"));
        String face = page.substring(page.indexOf("## The public face"), page.indexOf("## Terms"));
        Set<String> calls = new TreeSet<>();
        Matcher call = Pattern.compile("public (int|boolean) (\\w+)\\(([^)]*)\\)[^;]*;").matcher(face);
        while (call.find()) {
            calls.add(call.group(1) + " " + call.group(2) + "(" + call.group(3).replaceAll(" \\w+(, )?", ",")
                .replaceAll(",$", "") + ")");
        }
        Texts.due("calls in the document", calls.size(), CALLS);
        return calls;
    }

    private static String signature(Method m) {
        StringBuilder s = new StringBuilder(m.getReturnType().getName() + " " + m.getName() + "(");
        for (Class<?> p : m.getParameterTypes()) {
            s.append(s.charAt(s.length() - 1) == '(' ? "" : ",").append(p.getName());
        }
        return s.append(')').toString();
    }

    private static void face() throws java.io.IOException {
        Set<String> found = new TreeSet<>();
        Set<String> publicNames = new TreeSet<>();
        for (Method m : FourSledge.class.getDeclaredMethods()) {
            if (Modifier.isPublic(m.getModifiers())) {
                found.add(signature(m));
                publicNames.add(m.getName());
                Texts.due(m + " is no static one", Modifier.isStatic(m.getModifiers()), false);
                Texts.due(m + " throws", m.getExceptionTypes().length, m.getName().equals("man") ? 1 : 0);
            }
        }
        Texts.due("the face is " + found, found.equals(documented()), true);
        Texts.due("NONE", FourSledge.NONE, -1);
        for (Class<?> c : FourSledge.class.getDeclaredClasses()) {
            Texts.due(c + " is static", Modifier.isStatic(c.getModifiers()), true);
            Texts.due(c + " is not public", Modifier.isPublic(c.getModifiers()), false);
        }
        hidden(publicNames);
        Texts.due("final", Modifier.isFinal(FourSledge.class.getModifiers()), true);
    }

    private static void hidden(Set<String> publicNames) {
        for (Method m : FourSledge.class.getDeclaredMethods()) {
            if (!Modifier.isPublic(m.getModifiers())) {
                Texts.due(m + " is private", Modifier.isPrivate(m.getModifiers()), true);
                Texts.due(m + " has a name of its own", publicNames.contains(m.getName()), false);
            }
        }
        for (Class<?> c : FourSledge.class.getDeclaredClasses()) {
            for (Method m : c.getDeclaredMethods()) {
                Texts.due(m + " has a name of its own", publicNames.contains(m.getName()), false);
                Texts.due(m + " has seven parameters at most", m.getParameterCount() > 7, false);
            }
        }
        for (Field f : FourSledge.class.getDeclaredFields()) {
            boolean none = f.getName().equals("NONE");
            Texts.due(f + " is private", Modifier.isPrivate(f.getModifiers()), !none);
            Texts.due(f + " is public", Modifier.isPublic(f.getModifiers()), none);
            if (Modifier.isStatic(f.getModifiers())) {
                Texts.due(f + " is final", Modifier.isFinal(f.getModifiers()), true);
            }
        }
        Constructor<?>[] made = FourSledge.class.getDeclaredConstructors();
        Texts.due("constructors", made.length, 1);
        Texts.due("a public constructor", Modifier.isPublic(made[0].getModifiers()), true);
    }

    private static void source() throws java.io.IOException {
        String source = Files.readString(Path.of("src/main/java/FourSledge.java"));
        String code = source.replaceAll("(?s)/\\*.*?\\*/|//[^\n]*", "");
        for (String out : List.of("catch", "finally", "synchronized", "assert ", "->", "::", "Exact(", "System.out",
            "Random", "nanoTime", "currentTime", "Thread", ".hashCode(", "toString(", "var ", "package ")) {
            Texts.due("the source has " + out, code.contains(out), false);
        }
        Matcher imports = Pattern.compile("import ([^;]*);").matcher(code);
        while (imports.find()) {
            Texts.due("import " + imports.group(1), List.of("java.util.Arrays", "java.util.NoSuchElementException")
                .contains(imports.group(1)), true);
        }
        Matcher thrown = Pattern.compile("throw ").matcher(code);
        int throwsFound = 0;
        while (thrown.find()) {
            throwsFound++;
        }
        Texts.due("throw statements", throwsFound, 1);
        Texts.due("signs 1 to 127 alone", source.chars().allMatch(c -> c > 0 && c < 128), true);
        lengths(source);
    }

    /** A method's last line is the first '}' as far in as its first line. */
    private static void lengths(String source) {
        List<String> lines = Arrays.asList(source.split("\n"));
        for (int i = 0; i < lines.size(); i++) {
            Matcher head = Pattern.compile("^( {4}| {8})(?! )[^=;]*\\)[^=;]*\\{$").matcher(lines.get(i));
            if (head.matches()) {
                int end = i;
                while (!lines.get(end).equals(head.group(1) + "}")) {
                    end++;
                }
                Texts.due("too long: " + lines.get(i), end - i > 60, false);
            }
        }
    }

    public static void main(String[] args) throws java.io.IOException {
        face();
        source();
        Texts.finish("FaceTest");
    }
}
