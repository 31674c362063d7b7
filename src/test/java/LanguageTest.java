import java.io.IOException;
import java.lang.management.ManagementFactory;
import java.lang.reflect.Constructor;
import java.lang.reflect.Field;
import java.lang.reflect.Method;
import java.lang.reflect.Modifier;
import java.nio.file.Files;
import java.nio.file.Path;
import java.util.List;
import java.util.Set;
import java.util.TreeSet;
import java.util.regex.Matcher;
import java.util.regex.Pattern;

/** What of LANGUAGE.md can be seen from the source's text, from the compiled class, and from what calls make. */
public final class LanguageTest {
    private static final String FACE = "feed(long) end(int) library() rule() fault() weighs(int) word(int,int) says(int,int) words(int) "
            + "meets(int,int) steps(int) each(int,int) clash(int,int) sides(int,int,int) hangs(int,int) held(int,int) cases(int) many(int) "
            + "reckon(int,int,int,int,int) widest(int) near(int,int,int) bring(int) copies(int,int) argue(int,int,int) game(int,int,int) "
            + "turn(int) turns(int,int,int) keep() swap() differ(int) brief(int) sheet(int,int,int) lay(int,int,int) "
            + "read(int,int,int,int,int) count(int)";

    private static int wrong;

    private static void must(boolean so, String what) {
        if (!so) {
            wrong++;
            System.out.println("not so: " + what);
        }
    }

    public static void main(String[] args) throws IOException {
        String source = Files.readString(Path.of("src/main/java/LearnedCount.java"));
        text(source);
        calls(source);
        methodLengths(source);
        face();
        inside();
        room();
        System.out.println(wrong == 0 ? "the language is kept" : wrong + " things are not so");
        if (wrong != 0) {
            System.exit(1);
        }
    }

    private static String withoutComments(String source) {
        return source.replaceAll("(?s)/\\*.*?\\*/", "").replaceAll("//[^\n]*", "");
    }

    private static void text(String source) {
        String code = withoutComments(source);
        for (String word : "throw throws try catch finally synchronized assert volatile native strictfp double float record".split(" ")) {
            must(!Pattern.compile("\\b" + word + "\\b").matcher(code).find(), "no " + word);
        }
        for (String sign : new String[] {"->", "::", "static {", "package ", "String[", "@", "...", "\"\"\""}) {
            must(!code.contains(sign), "no " + sign);
        }
        must(!Pattern.compile("\"\\s*\\+|\\+\\s*\"").matcher(code).find(), "texts are not joined by +");
        must(code.chars().allMatch(c -> c < 128), "signs of a text");
        must(!Pattern.compile("while \\(true|for \\(;;|; ;").matcher(code).find(), "a loop has its end");
        Matcher imports = Pattern.compile("import ([^;]+);").matcher(code);
        while (imports.find()) {
            must(imports.group(1).equals("java.util.Arrays"), "import " + imports.group(1));
        }
    }

    /** Calls of the library, by the names of its classes. */
    private static void calls(String source) {
        Set<String> allowed = Set.of("Arrays.fill", "Math.max", "Math.min", "Integer.bitCount", "Integer.numberOfTrailingZeros",
                "Long.bitCount", "Long.numberOfTrailingZeros");
        Matcher used = Pattern.compile("\\b(System|Arrays|Math|Integer|Long|Character|Objects|String)\\.\\w+").matcher(withoutComments(source));
        while (used.find()) {
            must(allowed.contains(used.group()) || used.group().equals("util.Arrays"), "call " + used.group());
        }
    }

    private static void methodLengths(String source) {
        String[] lines = source.split("\n");
        int begun = -1;
        String indent = "";
        for (int i = 0; i < lines.length; i++) {
            Matcher head = Pattern.compile("^( {4}| {8})(?=\\S)[\\w<>\\[\\] ]+\\([^;]*\\) \\{$").matcher(lines[i]);
            if (begun < 0 && head.find()) {
                begun = i;
                indent = head.group(1);
            } else if (begun >= 0 && lines[i].equals(indent + "}")) {
                must(i - begun <= 60, "a method stays short: " + lines[begun]);
                begun = -1;
            }
        }
    }

    private static String signed(Method method) {
        StringBuilder s = new StringBuilder(method.getName()).append('(');
        for (Class<?> type : method.getParameterTypes()) {
            s.append(s.charAt(s.length() - 1) == '(' ? "" : ",").append(type.getSimpleName());
        }
        return s.append(')').toString();
    }

    private static void face() {
        Class<?> type = LearnedCount.class;
        must(Modifier.isFinal(type.getModifiers()) && Modifier.isPublic(type.getModifiers()), "public and final");
        Set<String> open = new TreeSet<>();
        Set<String> names = new TreeSet<>();
        for (Method method : type.getDeclaredMethods()) {
            if (Modifier.isPublic(method.getModifiers())) {
                open.add(signed(method));
                names.add(method.getName());
                must(method.getReturnType() == (method.getName().equals("cases") ? long.class : int.class), "answer of " + method);
            } else {
                must(Modifier.isPrivate(method.getModifiers()), "private " + method);
            }
        }
        must(open.equals(new TreeSet<>(List.of(FACE.split(" ")))), "the face, not " + open);
        for (Class<?> each : type.getDeclaredClasses()) {
            for (Method method : each.getDeclaredMethods()) {
                must(!names.contains(method.getName()), "a name of the face: " + method);
            }
        }
        for (Method method : type.getDeclaredMethods()) {
            must(Modifier.isPublic(method.getModifiers()) || !names.contains(method.getName()), "a name of the face: " + method);
        }
        Set<String> constants = new TreeSet<>();
        for (Field field : type.getDeclaredFields()) {
            if (Modifier.isPublic(field.getModifiers())) {
                constants.add(field.getName());
            } else {
                must(Modifier.isPrivate(field.getModifiers()), "private " + field);
            }
        }
        must(constants.equals(Set.of("BAD", "STATE", "FULL", "NONE")), "the constants, not " + constants);
        for (Constructor<?> made : type.getDeclaredConstructors()) {
            must(Modifier.isPublic(made.getModifiers()) && made.getParameterCount() == 0, "constructor " + made);
        }
    }

    private static void inside() {
        Class<?>[] inner = LearnedCount.class.getDeclaredClasses();
        must(inner.length < 12, "at most twelve classes");
        for (Class<?> type : inner) {
            must(Modifier.isStatic(type.getModifiers()) && Modifier.isPrivate(type.getModifiers()), "private and static " + type);
            members(type);
        }
        members(LearnedCount.class);
    }

    private static void members(Class<?> type) {
        int fields = 0;
        for (Field field : type.getDeclaredFields()) {
            must(!Modifier.isStatic(field.getModifiers()) || Modifier.isFinal(field.getModifiers()), "final " + field);
            fields += Modifier.isStatic(field.getModifiers()) ? 0 : 1;
        }
        must(fields <= 20, "twenty fields in " + type);
        for (Method method : type.getDeclaredMethods()) {
            must(method.getParameterCount() <= 7, "seven parameters " + method);
        }
    }

    /** All calls of a run live in one room, so calls make nothing; the machine's own doings are left some room. */
    private static void room() {
        com.sun.management.ThreadMXBean threads = (com.sun.management.ThreadMXBean) ManagementFactory.getThreadMXBean();
        long self = Thread.currentThread().getId();
        LearnedCount x = new LearnedCount();
        everyCall(x, 50);
        long before = threads.getThreadAllocatedBytes(self);
        everyCall(x, 200);
        long made = threads.getThreadAllocatedBytes(self) - before;
        must(made < 100000, "200 rounds of calls make nothing, not " + made + " bytes");
    }

    private static void everyCall(LearnedCount x, int rounds) {
        for (int i = 0; i < rounds; i++) {
            x.feed(0x776f726420612070L);
            x.feed(0x202d207965733b20L);
            x.library();
            x.feed(0x6d61696e20613b20L);
            x.rule();
            x.end(0);
            x.fault();
            x.weighs(0);
            x.word(0, 8);
            x.says(0, 1);
            x.words(2);
            x.meets(1, 2);
            x.steps(0);
            x.each(0, 1);
            x.clash(0, 0);
            x.sides(0, 1, 0);
            x.hangs(0, 0);
            x.held(1, 0);
            x.cases(0);
            x.many(0);
            x.reckon(1, 0, 0, 0, 0);
            x.widest(0);
            x.near(0, 1, 0);
            x.bring(i & 255);
            x.copies(i & 7, 2);
            x.argue(1, 1, 0);
            x.game(1, 1, 0);
            x.turn(0);
            x.turns(0, 0, 0);
            x.keep();
            x.swap();
            x.differ(0);
            x.brief(0);
            x.sheet(0, i % 3, 40);
            x.lay(0, 0, 1);
            x.read(0, i % 3, 0, 40, 0);
            x.count(0);
        }
    }
}
