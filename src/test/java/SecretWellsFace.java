import java.io.IOException;
import java.lang.reflect.Constructor;
import java.lang.reflect.Field;
import java.lang.reflect.Method;
import java.lang.reflect.Modifier;
import java.nio.file.Files;
import java.nio.file.Path;
import java.util.Arrays;
import java.util.Set;
import java.util.TreeSet;
import java.util.regex.Matcher;
import java.util.regex.Pattern;

/** The class has the document's face and no other, and its source keeps to what LANGUAGE.md rules out plainly. */
public final class SecretWellsFace {
    private static final String FACE = "int feed(int,int,int,int,int);int back(int);int read();int place();int well(int,int);"
        + "int man(int,int);int secret(int,int);int tells(int,int);int days(int);int whisper(int,int,int);"
        + "boolean tell(int,int,int);int drill(int,int,int);boolean go(int,int);boolean cut(int,boolean);boolean undo();"
        + "int wellIn(int,int,int);int manIn(int,int,int);int dryBy(int);int first(int);int rain(int,int,int);"
        + "int rainAt(int,int,int);int silence(int,int,int);int reach(int);int holds(int,int);int rings();"
        + "int quiet(int,int);int odds(int,int,int,int);int deaths(int,int);int worth(int);int note(int,int,int);"
        + "int forget();int truth(int,int);int sure(int,boolean);int next(int,int);boolean hold(int);"
        + "boolean restore(int);int count(int)";
    private static final String[] RULED_OUT = {"throw", "throws", "try", "catch", "finally", "synchronized", "assert",
        "->", "::", "protected", "native", "volatile", "Exact", "String.format", "System.out", "System.nanoTime",
        "currentTimeMillis", "Random", "Thread", "HashMap"};
    private static int wrong = 0;

    public static void main(String[] args) throws IOException {
        face();
        nested();
        source();
        System.out.println(wrong == 0 ? "the face is as due" : wrong + " things are not as due");
        if (wrong != 0) {
            System.exit(1);
        }
    }

    private static void check(boolean isSo, String what) {
        if (!isSo) {
            wrong++;
            System.out.println(what);
        }
    }

    private static void face() {
        Class<?> c = SecretWells.class;
        check(Modifier.isPublic(c.getModifiers()) && Modifier.isFinal(c.getModifiers()), "it is not public and final");
        Set<String> due = new TreeSet<>(Arrays.asList(FACE.split(";")));
        Set<String> got = new TreeSet<>();
        for (Method m : c.getDeclaredMethods()) {
            if (Modifier.isPrivate(m.getModifiers()) || m.isSynthetic()) {
                continue;
            }
            StringBuilder form = new StringBuilder(m.getReturnType() + " " + m.getName() + "(");
            for (Class<?> type : m.getParameterTypes()) {
                form.append(form.charAt(form.length() - 1) == '(' ? "" : ",").append(type);
            }
            got.add(form.append(")").toString());
            check(Modifier.isPublic(m.getModifiers()) && !Modifier.isStatic(m.getModifiers()), form + " is not as due");
        }
        check(got.equals(due), "methods: " + got + ", due are: " + due);
        Constructor<?>[] made = c.getDeclaredConstructors();
        check(made.length == 1 && made[0].getParameterCount() == 0 && Modifier.isPublic(made[0].getModifiers()), "constructors");
        for (Field f : c.getDeclaredFields()) {
            check(Modifier.isPrivate(f.getModifiers()) || f.getName().equals("NONE"), "field " + f.getName() + " can be seen");
            check(!Modifier.isStatic(f.getModifiers()) || Modifier.isFinal(f.getModifiers()), f.getName() + " is not final");
        }
    }

    private static void nested() {
        Set<String> open = new TreeSet<>();
        for (String form : FACE.split(";")) {
            open.add(form.substring(form.indexOf(' ') + 1, form.indexOf('(')));
        }
        Class<?>[] inside = SecretWells.class.getDeclaredClasses();
        check(inside.length <= 12, "too many classes");
        for (Class<?> c : inside) {
            check(Modifier.isStatic(c.getModifiers()) && !Modifier.isPublic(c.getModifiers()), c + " is not as due");
            for (Method m : c.getDeclaredMethods()) {
                check(!open.contains(m.getName()), c + " has a method " + m.getName());
                check(m.getParameterCount() <= 7, c + "." + m.getName() + " has too many parameters");
            }
        }
    }

    private static void source() throws IOException {
        Path path = Path.of("src/main/java/SecretWells.java");
        if (!Files.exists(path)) {
            return;
        }
        String code = Files.readString(path).replaceAll("(?s)/\\*.*?\\*/", "").replaceAll("//[^\n]*", "");
        for (String word : RULED_OUT) {
            Pattern p = Character.isLetter(word.charAt(0)) ? Pattern.compile("\\b\\w*" + Pattern.quote(word) + "\\b") : Pattern.compile(Pattern.quote(word));
            Matcher m = p.matcher(code);
            while (m.find()) {
                check(!m.group().equals(word) && !word.equals("Exact"), "the source has " + m.group());
            }
        }
        Matcher imports = Pattern.compile("import ([^;]*);").matcher(code);
        while (imports.find()) {
            check(imports.group(1).equals("java.util.Arrays"), "it imports " + imports.group(1));
        }
        check(Pattern.compile("\\bnew \\w").matcher(withoutFields(code)).results().count() == 1, "something is made in a call");
    }

    /** What is left when field lines are gone: all objects are made with the object, but the rows of Rows(int). */
    private static String withoutFields(String code) {
        return code.replaceAll("(?m)^ *(private |static |final )[^\n(]*= new [^\n]*$", "");
    }
}
