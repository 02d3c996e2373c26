import java.io.ByteArrayOutputStream;
import java.io.PrintStream;
import java.lang.reflect.Method;
import java.lang.reflect.Modifier;
import java.net.URL;
import java.net.URLClassLoader;
import java.nio.file.Files;
import java.nio.file.Path;
import java.util.stream.Stream;
import javax.tools.ToolProvider;

/** README.md: its example prints what it says, and no call of the face is left out. */
public final class ReadmeTest {
    private static final String FENCE = "```";

    /** What stands in the first block of this sort behind a place of the page. */
    private static String block(String page, String sort, int from) {
        int head = page.indexOf(FENCE + sort + "\n", from);
        int begin = head + FENCE.length() + sort.length() + 1;
        int end = head < 0 ? -1 : page.indexOf(FENCE, begin);
        Texts.due("README.md has a block of " + sort, end >= 0, true);
        return end < 0 ? "" : page.substring(begin, end);
    }

    private static String printed(String source, Path out) throws Exception {
        Path file = out.resolve("Example.java");
        Files.writeString(file, source);
        String classes = System.getProperty("java.class.path");
        int code = ToolProvider.getSystemJavaCompiler().run(null, null, null,
            "-cp", classes, "-d", out.toString(), file.toString());
        Texts.due("the example compiles with", code, 0);
        if (code != 0) {
            return "";
        }
        ByteArrayOutputStream told = new ByteArrayOutputStream();
        PrintStream was = System.out;
        try (URLClassLoader loader = new URLClassLoader(new URL[] {out.toUri().toURL()})) {
            System.setOut(new PrintStream(told, true));
            loader.loadClass("Example").getMethod("main", String[].class).invoke(null, (Object) new String[0]);
        } finally {
            System.setOut(was);
        }
        return told.toString().replace("\r\n", "\n");
    }

    private static void example(String page) throws Exception {
        Path out = Files.createTempDirectory("readme");
        try {
            String got = printed(block(page, "java", 0), out);
            String want = block(page, "text", page.indexOf("It prints:"));
            if (!got.equals(want)) {
                System.out.println("the example prints\n" + got);
            }
            Texts.due("the example prints what README.md says", got.equals(want), true);
        } finally {
            remove(out);
        }
    }

    private static void remove(Path out) throws java.io.IOException {
        try (Stream<Path> files = Files.list(out)) {
            for (Path file : files.toList()) {
                Files.delete(file);
            }
        }
        Files.delete(out);
    }

    /** A call is named as `name(`, with as many arguments as it has. */
    private static void calls(String page) {
        for (Method m : FourSledge.class.getDeclaredMethods()) {
            if (Modifier.isPublic(m.getModifiers())) {
                String arguments = m.getParameterCount() == 0 ? ""
                    : "\\w+(, \\w+){" + (m.getParameterCount() - 1) + "}";
                String call = "(?s).*`" + m.getName() + "\\(" + arguments + "\\)`.*";
                Texts.due("README.md names " + m.getName(), page.matches(call), true);
            }
        }
    }

    private static void howToRun(String page) {
        Texts.due("README.md names .ci/run", page.contains("bash .ci/run"), true);
        Texts.due(".ci/run may be run", Files.isExecutable(Path.of(".ci/run")), true);
    }

    public static void main(String[] args) throws Exception {
        String page = Files.readString(Path.of("README.md"));
        example(page);
        calls(page);
        howToRun(page);
        Texts.finish("ReadmeTest");
    }
}
