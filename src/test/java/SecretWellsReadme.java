import java.io.File;
import java.io.IOException;
import java.lang.reflect.InvocationTargetException;
import java.lang.reflect.Method;
import java.lang.reflect.Modifier;
import java.net.URL;
import java.net.URLClassLoader;
import java.nio.file.Files;
import java.nio.file.Path;
import java.util.ArrayList;
import java.util.List;
import java.util.Set;
import java.util.TreeSet;
import java.util.regex.Matcher;
import java.util.regex.Pattern;
import java.util.stream.Stream;
import javax.tools.ToolProvider;

/**
 * README.md: its example answers what it says, the forms of a text that it shows are read, its commands run, and the
 * names that it tells are there.
 */
public final class SecretWellsReadme {
    private static final Path MAIN = Path.of("src/main/java/SecretWells.java");
    /** A call, alone or put into a variable, with its answer behind it. */
    private static final Pattern ANSWERED =
        Pattern.compile("((?:int|boolean) (\\w+) = )?(x\\..*);\\s+// (-?\\d+|true|false)\\b.*");
    private static int wrong = 0;

    public static void main(String[] args) throws Exception {
        String page = Files.readString(Path.of("README.md"));
        Path dir = Files.createTempDirectory("readme");
        try {
            example(blocks(page, "java"), dir);
        } finally {
            remove(dir);
        }
        forms(blocks(page, "text"));
        commands(blocks(page, "sh"));
        names(page);
        System.out.println(wrong == 0 ? "the page is as due" : wrong + " things are not as due");
        if (wrong != 0) {
            System.exit(1);
        }
    }

    private static void check(boolean isSo, String what) {
        if (!isSo) {
            wrong++;
            System.out.println("README.md: " + what);
        }
    }

    private static List<String> blocks(String page, String kind) {
        List<String> found = new ArrayList<>();
        Matcher m = Pattern.compile("(?ms)^```" + kind + "\n(.*?)^```$").matcher(page);
        while (m.find()) {
            found.add(m.group(1));
        }
        check(!found.isEmpty(), "it shows no " + kind);
        return found;
    }

    // ---- the example

    private static void example(List<String> blocks, Path dir) throws Exception {
        StringBuilder members = new StringBuilder();
        StringBuilder body = new StringBuilder();
        int answers = 0;
        for (String block : blocks) {
            if (block.startsWith("static ")) {
                members.append(block);
                continue;
            }
            for (String line : block.split("\n")) {
                Matcher m = ANSWERED.matcher(line);
                boolean isAnswered = m.matches();
                answers += isAnswered ? 1 : 0;
                check(isAnswered || !line.startsWith("x."), "no answer is told: " + line);
                body.append(isAnswered ? asked(m) : line).append('\n');
            }
        }
        check(answers >= 30, "only " + answers + " answers are told");
        run(members.toString(), body.toString(), dir);
    }

    private static String asked(Matcher m) {
        String told = "\"" + m.group(3).replace("\"", "'") + "\", \"" + m.group(4) + "\", String.valueOf(";
        if (m.group(1) == null) {
            return "due(" + told + m.group(3) + "));";
        }
        return m.group(1) + m.group(3) + "; due(" + told + m.group(2) + "));";
    }

    private static void run(String members, String body, Path dir) throws Exception {
        Path file = dir.resolve("Example.java");
        Files.writeString(file, "public final class Example {\n" + members
            + "static String wrong = \"\";\n"
            + "static void due(String call, String told, String got) {\n"
            + "if (!told.equals(got)) { wrong += call + \" answers \" + got + \", not \" + told + \"\\n\"; }\n}\n"
            + "public static String run() {\n" + body + "return wrong;\n}\n}\n");
        int fault = ToolProvider.getSystemJavaCompiler().run(null, System.out, System.out, "-d", dir.toString(),
            MAIN.toString(), file.toString());
        check(fault == 0, "the example does not compile");
        if (fault != 0) {
            return;
        }
        try (URLClassLoader loader = new URLClassLoader(new URL[] {dir.toUri().toURL()}, null)) {
            String told = (String) loader.loadClass("Example").getMethod("run").invoke(null);
            check(told.isEmpty(), told);
        } catch (InvocationTargetException e) {
            check(false, "the example throws " + e.getCause());
        }
    }

    private static void remove(Path dir) throws IOException {
        try (Stream<Path> inside = Files.walk(dir)) {
            inside.sorted((a, b) -> b.compareTo(a)).map(Path::toFile).forEach(File::delete);
        }
    }

    // ---- the forms of a text

    /** A form at the line's begin; behind two blanks, how many at most, if there is a most. */
    private static final Pattern FORM = Pattern.compile("(?m)^([a-z].*;) {2,}(?:(\\d+) at most)?.*$");
    private static final String PIT = "well pit 1 1;";
    private static final String MEN = "man ann pit 1; man bob pit 1;";

    private static void forms(List<String> blocks) {
        Set<String> shown = new TreeSet<>();
        for (String block : blocks) {
            Matcher m = FORM.matcher(block);
            while (m.find()) {
                Matcher word = Pattern.compile("(?:^|; )([a-z]+)").matcher(m.group(1));
                while (word.find()) {
                    shown.add(word.group(1));
                }
                form(m.group(1), m.group(2));
            }
        }
        Set<String> due = new TreeSet<>(List.of("well", "man", "secret", "tie", "fills", "tells", "drinks", "thirst", "salt", "seed"));
        check(shown.equals(due), "these forms of a text are shown: " + shown);
    }

    /** As many as it says are read, and one more is not. */
    private static void form(String form, String most) {
        String ahead = form.startsWith("well") ? "" : form.startsWith("man") ? PIT : PIT + MEN;
        StringBuilder text = new StringBuilder(ahead);
        int many = most == null ? 2 : Integer.parseInt(most);
        for (int i = 0; i < many; i++) {
            text.append(filled(form, i));
        }
        check(fault(text.toString()) == 0, "not read: " + text);
        text.append(filled(form, many));
        check(fault(text.toString()) == (most == null ? 0 : 2), "more than " + many + " of: " + form);
    }

    private static String filled(String form, int i) {
        return form.replace("NAME", "n" + (char) ('a' + i)).replace("tie MAN", "tie ann").replace("MAN ..", "ann bob")
            .replace("MAN", "bob").replace("WELL", "pit").replace("LAW", "if day < 1 then 2 else (which - deep) * 3")
            .replaceAll("ROCK|WATER|WANT|HEAVY|\\bN\\b", "1");
    }

    private static int fault(String text) {
        SecretWells x = new SecretWells();
        Due.feed(x, text);
        return x.read();
    }

    // ---- the commands

    /** All but .ci/run itself, which runs this test. */
    private static void commands(List<String> blocks) throws Exception {
        boolean isTold = false;
        for (String block : blocks) {
            if (block.equals(".ci/run\n")) {
                isTold = true;
                check(Files.isExecutable(Path.of(".ci/run")), ".ci/run cannot be run");
                continue;
            }
            Process run = new ProcessBuilder("sh", "-e", "-c", block).redirectErrorStream(true).start();
            run.getOutputStream().close();
            String said = new String(run.getInputStream().readAllBytes());
            check(run.waitFor() == 0, block + said);
        }
        check(isTold, ".ci/run is not told");
    }

    // ---- the names

    private static void names(String page) throws IOException {
        Set<String> told = new TreeSet<>();
        Matcher m = Pattern.compile("`([^`\n]+)`").matcher(page.replaceAll("(?ms)^```.*?^```$", ""));
        while (m.find()) {
            told.add(m.group(1));
        }
        for (Method call : SecretWells.class.getDeclaredMethods()) {
            check(!Modifier.isPublic(call.getModifiers()) || told.contains(call.getName()), call.getName() + " is not told");
        }
        for (Class<?> inside : SecretWells.class.getDeclaredClasses()) {
            check(told.contains(inside.getSimpleName()), "the class " + inside.getSimpleName() + " is not told");
        }
        try (Stream<Path> tests = Files.list(Path.of("src/test/java"))) {
            tests.map(test -> test.getFileName().toString().replace(".java", ""))
                .forEach(name -> check(told.contains(name), "the test " + name + " is not told"));
        }
        for (String name : told) {
            boolean isPath = name.contains("/");
            check(!isPath || Files.exists(Path.of(name)), name + " is not there");
            boolean isTest = name.startsWith("SecretWells") && !name.contains(".");
            check(!isTest || Files.exists(Path.of("src/test/java/" + name + ".java")), "the test " + name + " is not there");
        }
    }
}
