import java.io.IOException;
import java.lang.reflect.Method;
import java.lang.reflect.Modifier;
import java.net.URL;
import java.net.URLClassLoader;
import java.nio.file.Files;
import java.nio.file.Path;
import java.util.ArrayList;
import java.util.List;
import java.util.Set;
import java.util.TreeSet;
import java.util.regex.Matcher;
import java.util.regex.Pattern;
import javax.tools.ToolProvider;

/** Compiles and runs the examples of README.md as they stand there: each call answers the number that is told behind it. */
public final class ReadmeTest extends Telling {
    private static final String EXAMPLES = "ReadmeExamples";
    private static final Pattern BLOCK = Pattern.compile("(?s)```java\n(.*?)```");
    private static final Pattern CALL = Pattern.compile("(?m)^(x\\.(\\w+)\\(.*?\\));( +// ?(-?\\d+)?.*)?$");

    public static void main(String[] args) throws Exception {
        String page = Files.readString(Path.of("README.md"));
        everyCallHasAnExample(page);
        saysHowTestsAreRun(page);
        run(source(page));
        finish();
    }

    private static void everyCallHasAnExample(String page) {
        about("README.md: an example of each kind of call");
        Set<String> shown = new TreeSet<>();
        for (String block : blocks(page)) {
            Matcher call = CALL.matcher(block);
            while (call.find()) {
                must("an answer stands behind " + call.group(1), call.group(4) != null);
                shown.add(call.group(2));
            }
        }
        for (Method method : LearnedCount.class.getDeclaredMethods()) {
            if (Modifier.isPublic(method.getModifiers())) {
                must("there is an example of " + method.getName(), shown.contains(method.getName()));
            }
        }
    }

    private static void saysHowTestsAreRun(String page) {
        about("README.md: what refused calls answer, and the command that runs the tests");
        must("the command", page.contains("\n    .ci/run\n") && Files.isExecutable(Path.of(".ci/run")));
        for (String name : new String[] {"`BAD`, -1", "`STATE`, -2", "`FULL`, -3", "`NONE`, -4"}) {
            must(name, page.contains(name));
        }
    }

    private static List<String> blocks(String page) {
        List<String> all = new ArrayList<>();
        Matcher block = BLOCK.matcher(page);
        while (block.find()) {
            all.add(block.group(1));
        }
        return all;
    }

    /** Methods stand beside the other examples, which are lines of one method. */
    private static String source(String page) {
        StringBuilder methods = new StringBuilder();
        StringBuilder lines = new StringBuilder();
        for (String block : blocks(page)) {
            if (block.startsWith("static ")) {
                methods.append(block);
            } else {
                lines.append(CALL.matcher(block).replaceAll("answers.add((long) $1);"));
            }
        }
        return "public final class " + EXAMPLES + " {\n" + methods
                + "public static void run(java.util.List<Long> answers) {\n" + lines + "}\n}\n";
    }

    private static void run(String source) throws Exception {
        about("README.md: its examples");
        Path room = Files.createTempDirectory("readme");
        Path file = room.resolve(EXAMPLES + ".java");
        List<Long> answers = new ArrayList<>();
        try {
            Files.writeString(file, source);
            int compiled = ToolProvider.getSystemJavaCompiler().run(null, null, null, "-d", room.toString(),
                    "-cp", System.getProperty("java.class.path"), file.toString());
            must("the examples can be compiled", compiled == 0);
            if (compiled == 0) {
                call(room, answers);
            }
        } finally {
            clear(room);
        }
        compare(answers);
    }

    private static void call(Path room, List<Long> answers) throws Exception {
        URL[] places = {room.toUri().toURL()};
        try (URLClassLoader loader = new URLClassLoader(places, ReadmeTest.class.getClassLoader())) {
            loader.loadClass(EXAMPLES).getMethod("run", List.class).invoke(null, answers);
        }
    }

    private static void clear(Path room) throws IOException {
        try (var files = Files.newDirectoryStream(room)) {
            for (Path file : files) {
                Files.delete(file);
            }
        }
        Files.delete(room);
    }

    /** The examples feed texts and a full tape besides, so they may make some 300 calls at most to stay below 512. */
    private static void compare(List<Long> answers) throws IOException {
        int at = 0;
        for (String block : blocks(Files.readString(Path.of("README.md")))) {
            Matcher call = CALL.matcher(block);
            while (call.find() && call.group(4) != null && at < answers.size()) {
                due(call.group(1), answers.get(at++), Long.parseLong(call.group(4)));
            }
        }
        due("how many calls were made", at, answers.size());
        must("the examples are no more than an object is used for", answers.size() < 300);
    }
}
