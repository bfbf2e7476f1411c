import java.io.IOException;
import java.lang.reflect.Constructor;
import java.lang.reflect.Field;
import java.lang.reflect.Method;
import java.lang.reflect.Modifier;
import java.nio.file.Files;
import java.nio.file.Path;
import java.util.Set;
import java.util.TreeSet;
import java.util.regex.Matcher;
import java.util.regex.Pattern;

/** The public face of the document, and those rules of LANGUAGE.md that can be seen from outside. */
public final class FaceTest {
    private static final String FACE = "int curve(int,int,int,int,int);long number(int,int,int,int);int place(int,long,int);"
        + "long size(int);int gap(int,long,int);boolean shelf(int,int);int put(int,int,int,int,int,int);int drop(int,int);"
        + "int move(int,int,int,int,int);int sow(int,int,int);int find(int,int);int at(int,int,int);int count(int,int);"
        + "int page(int,int,int);int undo(int);void low(int,int,int);void high(int,int,int);int spans(int);"
        + "long span(int,int);int few(int);long beyond();long jump(int,long);int points(int);"
        + "int nearest(int,int,int,int,int,int);int within(int,int,int,int,int,int);int pairs(int,int);long found(int,int);"
        + "int spent(int);long mean(int,int,int,int,int);int compare(int,int,int,int,int);"
        + "int witness(int,int,int,int,int,int);int out(int);int forge(int,int);int check(int,int,int,int,int,int);"
        + "boolean lay(int,int,int,int);long ask(int,int);boolean image(int);boolean back(int)";

    private FaceTest() {
    }

    public static void main(String[] args) throws IOException {
        face();
        inside();
        source(Files.readString(Path.of("src/main/java/CurveShelf.java")));
        Due.end();
    }

    private static String told(Method m) {
        StringBuilder text = new StringBuilder(m.getReturnType().getName() + " " + m.getName() + "(");
        for (Class<?> type : m.getParameterTypes()) {
            text.append(text.charAt(text.length() - 1) == '(' ? "" : ",").append(type.getName());
        }
        return text.append(")").toString();
    }

    private static void face() {
        Set<String> due = new TreeSet<>(Set.of(FACE.split(";")));
        Set<String> names = new TreeSet<>();
        Due.is("methods of the document", due.size(), 38);
        for (String method : due) {
            names.add(method.substring(method.indexOf(' ') + 1, method.indexOf('(')));
        }
        for (Method m : CurveShelf.class.getDeclaredMethods()) {
            if (!Modifier.isPrivate(m.getModifiers())) {
                Due.is(told(m) + " is due", due.remove(told(m)), true);
                Due.is(m.getName() + " is public", m.getModifiers(), Modifier.PUBLIC);
            }
        }
        Due.is("missing: " + due, due.size(), 0);
        privateNames(CurveShelf.class, names);
        for (Class<?> c : CurveShelf.class.getDeclaredClasses()) {
            privateNames(c, names);
        }
        Constructor<?>[] made = CurveShelf.class.getDeclaredConstructors();
        Due.is("one constructor", made.length, 1);
        Due.is("it is public", made[0].getModifiers(), Modifier.PUBLIC);
        Due.is("without parameters", made[0].getParameterCount(), 0);
        Due.is("the class is public and final", CurveShelf.class.getModifiers(), Modifier.PUBLIC | Modifier.FINAL);
        for (Field f : CurveShelf.class.getDeclaredFields()) {
            boolean none = f.getName().equals("NONE");
            Due.is("field " + f.getName() + " is private", Modifier.isPrivate(f.getModifiers()), !none);
            Due.is("NONE is public", Modifier.isPublic(f.getModifiers()), none);
        }
    }

    private static void privateNames(Class<?> c, Set<String> names) {
        for (Method m : c.getDeclaredMethods()) {
            if (Modifier.isPrivate(m.getModifiers())) {
                Due.is("private " + m.getName() + " bears a public name", names.contains(m.getName()), false);
            }
        }
    }

    private static void inside() {
        Class<?>[] classes = CurveShelf.class.getDeclaredClasses();
        Due.is("at most some twelve classes", classes.length <= 12, true);
        for (Class<?> c : classes) {
            Due.is(c.getName() + " is static", Modifier.isStatic(c.getModifiers()), true);
            Due.is(c.getName() + " is not public", Modifier.isPublic(c.getModifiers()), false);
            members(c);
        }
        members(CurveShelf.class);
    }

    private static void members(Class<?> c) {
        int fields = 0;
        for (Field f : c.getDeclaredFields()) {
            boolean constant = Modifier.isStatic(f.getModifiers());
            Due.is(f + ": static is final", !constant || Modifier.isFinal(f.getModifiers()), true);
            fields += constant ? 0 : 1;
        }
        Due.is(c.getName() + " has some twenty fields", fields <= 20, true);
        for (Method m : c.getDeclaredMethods()) {
            Due.is(m + " has seven parameters", m.getParameterCount() <= 7, true);
            Due.is(m + " was made by the compiler", m.isSynthetic(), false);
        }
        for (Constructor<?> m : c.getDeclaredConstructors()) {
            Due.is(m + " has seven parameters", m.getParameterCount() <= 7, true);
        }
    }

    private static void source(String text) {
        String code = text.replaceAll("(?s)/\\*.*?\\*/", "").replaceAll("//[^\n]*", "");
        String[] words = {"throw", "throws", "try", "catch", "synchronized", "assert", "package", "protected", "new Random",
            "System\\.(?!arraycopy)\\w+", "import (?!java\\.util\\.Arrays;)", "\\w+Exact", "Object", "Thread", "->", "::",
            "\"", "@\\w+", "double", "float"};
        for (String word : words) {
            Matcher m = Pattern.compile("(?<!\\w)(?:" + word + ")(?!\\w)").matcher(code);
            Due.is("the source has '" + word + "'", m.find(), false);
        }
        Due.is("signs 1 to 127", text.chars().allMatch(c -> c > 0 && c < 128), true);
        longMethods(text.split("\n"));
    }

    private static void longMethods(String[] lines) {
        for (int i = 0; i < lines.length; i++) {
            Due.is("line " + (i + 1) + " is too long", lines[i].length() <= 125, true);
            if (!lines[i].matches("( {4}| {8})\\S.*\\) \\{")) {
                continue;
            }
            String end = lines[i].replaceAll("\\S.*", "}");
            int j = i;
            while (j < lines.length && !lines[j].equals(end)) {
                j++;
            }
            Due.is("the method at line " + (i + 1) + " has some sixty lines", j - i < 60, true);
        }
    }
}
