import java.io.IOException;
import java.lang.reflect.Constructor;
import java.lang.reflect.Field;
import java.lang.reflect.Method;
import java.lang.reflect.Modifier;
import java.nio.file.Files;
import java.nio.file.Path;
import java.util.Arrays;
import java.util.TreeSet;
import java.util.regex.Matcher;
import java.util.regex.Pattern;

/** The face of the document, and those rules of LANGUAGE.md that can be seen from outside or from the words. */
public final class LanguageTest {
    private static final String FACE = "write(int) wipe() fault() lay() instrument(int,int) seat(int) asked(int) plays(int)"
        + " missing(int) first() notes(int) change(int,int) bribe(int) undo() best(int) changes() help(int) bribes(int)"
        + " rests() silence(int) alike() odds(int) atLeast(int,int) heard(int,int,int) forget() kinds(int) hall(int)"
        + " tour(int,int,int) keep() back() count(int)";
    private static final String[] FORBIDDEN = {"throw", "throws", "try", "catch", "finally", "synchronized", "assert",
        "System.out", "Random", "Thread", "Exact", "->", "::", "instanceof", "equals", "hashCode", "toString", "native",
        "volatile", "transient", "var", "lambda", "File", "nanoTime", "currentTimeMillis", "NaN", "static {"};

    private LanguageTest() {
    }

    public static void main(String[] args) throws IOException {
        face();
        members(SecondOboe.class);
        Class<?>[] inside = SecondOboe.class.getDeclaredClasses();
        Check.due("at most twelve classes", 1, inside.length < 12 ? 1 : 0);
        for (Class<?> one : inside) {
            Check.due(one + " is static", 1, Modifier.isStatic(one.getModifiers()) ? 1 : 0);
            Check.due(one + " is not public", 0, Modifier.isPublic(one.getModifiers()) ? 1 : 0);
            members(one);
        }
        words(bare(Files.readString(Path.of("src/main/java/SecondOboe.java"))));
        Check.finish();
    }

    private static void face() {
        TreeSet<String> due = new TreeSet<>(Arrays.asList(FACE.split(" ")));
        TreeSet<String> got = new TreeSet<>();
        for (Method method : SecondOboe.class.getDeclaredMethods()) {
            if (!Modifier.isPrivate(method.getModifiers())) {
                String takes = Arrays.toString(method.getParameterTypes()).replaceAll("[\\[\\] ]", "");
                got.add(method.getName() + "(" + takes + ")");
                Check.due(method + " is public", 1, Modifier.isPublic(method.getModifiers()) ? 1 : 0);
                Check.due(method + " answers an int", 1, method.getReturnType() == int.class ? 1 : 0);
            }
        }
        Check.due("the face is " + due + ", not " + got, 1, due.equals(got) ? 1 : 0);
        Constructor<?>[] made = SecondOboe.class.getDeclaredConstructors();
        Check.due("one constructor", 1, made.length);
        Check.due("a public one of nothing", 1,
            Modifier.isPublic(made[0].getModifiers()) && made[0].getParameterCount() == 0 ? 1 : 0);
        Check.due("the class is final", 1, Modifier.isFinal(SecondOboe.class.getModifiers()) ? 1 : 0);
        int constants = 0;
        for (Field field : SecondOboe.class.getDeclaredFields()) {
            constants += Modifier.isPrivate(field.getModifiers()) ? 0 : 1;
        }
        Check.due("four constants", 4, constants);
        Check.due("BAD", -1, SecondOboe.BAD);
        Check.due("NO", -2, SecondOboe.NO);
        Check.due("FULL", -3, SecondOboe.FULL);
        Check.due("NONE", -4, SecondOboe.NONE);
    }

    private static void members(Class<?> one) {
        int fields = 0;
        for (Field field : one.getDeclaredFields()) {
            boolean fixed = Modifier.isStatic(field.getModifiers());
            fields += fixed ? 0 : 1;
            Check.due(field + " is final, if static", 1, !fixed || Modifier.isFinal(field.getModifiers()) ? 1 : 0);
        }
        Check.due(one + " has some twenty fields", 1, fields <= 20 ? 1 : 0);
        TreeSet<String> names = new TreeSet<>(Arrays.asList(FACE.replaceAll("\\([^)]*\\)", "").split(" ")));
        for (Method method : one.getDeclaredMethods()) {
            boolean ofTheFace = one == SecondOboe.class && Modifier.isPublic(method.getModifiers());
            Check.due(method + " bears a name of its own", 1, ofTheFace || !names.contains(method.getName()) ? 1 : 0);
            Check.due(method + " takes seven at most", 1, method.getParameterCount() <= 7 ? 1 : 0);
        }
    }

    /** The source without comments, texts and single signs. */
    private static String bare(String source) {
        return source.replaceAll("(?s)/\\*.*?\\*/", " ").replaceAll("//[^\n]*", " ")
            .replaceAll("\"[^\"\n]*\"", "\"\"").replaceAll("'[^'\n]*'", "0");
    }

    private static void words(String source) {
        for (String word : FORBIDDEN) {
            boolean letters = Character.isLetter(word.charAt(0)) && Character.isLetter(word.charAt(word.length() - 1));
            Matcher m = Pattern.compile(letters ? "\\b" + Pattern.quote(word) + "\\b" : Pattern.quote(word)).matcher(source);
            Check.due("no word " + word, 0, m.find() ? 1 : 0);
        }
        Matcher library = Pattern.compile("(?m)^import .*$").matcher(source);
        while (library.find()) {
            Check.due(library.group(), 1, library.group().equals("import java.util.Arrays;") ? 1 : 0);
        }
        // Rows are made where fields are, so that no call makes one.
        int lineNumber = 0;
        for (String line : source.split("\n")) {
            lineNumber++;
            Check.due("line " + lineNumber + " makes nothing in a call", 1,
                !line.matches(".*\\bnew\\b.*") || line.matches("\\s*(private )?final .*") ? 1 : 0);
        }
    }
}
