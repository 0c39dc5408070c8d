import java.io.IOException;
import java.lang.reflect.Constructor;
import java.lang.reflect.Field;
import java.lang.reflect.Method;
import java.lang.reflect.Modifier;
import java.nio.file.Files;
import java.nio.file.Path;
import java.util.Arrays;
import java.util.Set;
import java.util.TreeSet;
import java.util.regex.Matcher;
import java.util.regex.Pattern;

/** The face of the class, and what of LANGUAGE.md can be seen from the source and from the compiled class. */
public final class LanguageTest {
    private static final String FACE = "int feed(int,int,int,int,int);int back(int);int read();int place();int docket(int,int);int suffers(int,int);"
        + "int tells(int,int,int);int at(int);boolean change(int,int);boolean go(int,int);boolean off(int);boolean on(int);int plead(int);"
        + "int sessions(int);boolean undo();int best(int,int);int traders(int);int gain(int,int);int behind(int);int rests();int settles();"
        + "int shunned(int);int buyers();int lighter(int);int furthest(int,int);int then(int,int);int listIn(int,int);int year(int,int,int);"
        + "int tell(int,int,boolean);int forget();int fits(int,int);int ask(int,int);boolean hold(int);boolean restore(int);int count(int)";

    private static final String[] RULED_OUT = {"\\bthrow\\b", "\\btry\\b", "\\bcatch\\b", "\\bsynchronized\\b", "\\bassert\\b", "->", "::", "\\bimport\\b",
        "\\bpackage\\b", "\\bSystem\\.(?!arraycopy)", "\\bprotected\\b", "\\bNaN\\b", "\\bthread\\b", "\\bstatic\\s*\\{", "\\w+Exact\\b",
        "\\bHashMap\\b", "\\bMath\\.(?!max|min|abs|floorMod|floorDiv)", "[^\\x00-\\x7f]"};

    public static void main(String[] args) throws IOException {
        face();
        String source = Files.readString(Path.of("src/main/java/CaseBefore.java"));
        String code = withoutCommentsAndTexts(source);
        for (String pattern : RULED_OUT) {
            Matcher m = Pattern.compile(pattern).matcher(code);
            Due.is("the source has " + pattern, m.find(), false);
        }
        nestedClasses();
        methodLengths(source);
        Due.end();
    }

    private static String withoutCommentsAndTexts(String source) {
        return source.replaceAll("\"[^\"\n]*\"", "\"\"").replaceAll("'[^'\n]'", "' '").replaceAll("(?s)/\\*.*?\\*/", "").replaceAll("//[^\n]*", "");
    }

    private static void face() {
        Class<?> c = CaseBefore.class;
        Due.is("public final", c.getModifiers(), Modifier.PUBLIC | Modifier.FINAL);
        Set<String> due = new TreeSet<>(Arrays.asList(FACE.split(";")));
        Set<String> names = new TreeSet<>();
        Set<String> got = new TreeSet<>();
        for (String method : due) {
            names.add(method.substring(method.indexOf(' ') + 1, method.indexOf('(')));
        }
        for (Method m : c.getDeclaredMethods()) {
            if (Modifier.isPublic(m.getModifiers())) {
                String parts = Arrays.toString(Arrays.stream(m.getParameterTypes()).map(Class::getName).toArray());
                got.add(m.getReturnType().getName() + " " + m.getName() + "(" + parts.substring(1, parts.length() - 1).replace(", ", ",") + ")");
            } else {
                Due.is(m + " is private", Modifier.isPrivate(m.getModifiers()), true);
                Due.is(m + " bears the name of a public one", names.contains(m.getName()), false);
            }
        }
        due.removeAll(got);
        Due.is("methods that lack: " + due, due.size(), 0);
        Due.is("methods", got.size(), names.size());
        for (Field f : c.getDeclaredFields()) {
            Due.is(f + " is private", Modifier.isPrivate(f.getModifiers()), !f.getName().equals("NONE"));
        }
        for (Constructor<?> k : c.getDeclaredConstructors()) {
            Due.is(k + " is public and without parameters", Modifier.isPublic(k.getModifiers()) && k.getParameterCount() == 0, true);
        }
    }

    private static void nestedClasses() {
        Class<?>[] nested = CaseBefore.class.getDeclaredClasses();
        Due.is("at most twelve classes", nested.length < 12, true);
        Set<String> names = new TreeSet<>();
        for (Method m : CaseBefore.class.getMethods()) {
            if (m.getDeclaringClass() == CaseBefore.class) {
                names.add(m.getName());
            }
        }
        for (Class<?> c : nested) {
            Due.is(c + " is static", Modifier.isStatic(c.getModifiers()), true);
            for (Method m : c.getDeclaredMethods()) {
                Due.is(m + " bears the name of a public one", names.contains(m.getName()), false);
                Due.is(m + " has at most seven parameters", m.getParameterCount() <= 7, true);
            }
            int fields = 0;
            for (Field f : c.getDeclaredFields()) {
                boolean constant = Modifier.isStatic(f.getModifiers());
                fields += constant ? 0 : 1;
                Due.is(f + " is final", !constant || Modifier.isFinal(f.getModifiers()), true);
            }
            Due.is(c + " has at most twenty fields", fields <= 20, true);
        }
    }

    private static void methodLengths(String source) {
        String[] lines = source.split("\n");
        int from = -1;
        String indent = "";
        for (int i = 0; i < lines.length; i++) {
            Matcher m = Pattern.compile("^( {4}| {8})(public|private)[^=;]*\\) \\{$").matcher(lines[i]);
            if (m.find()) {
                from = i;
                indent = m.group(1);
            } else if (from >= 0 && lines[i].equals(indent + "}")) {
                Due.is("the method at line " + (from + 1) + " is longer than 60 lines", i - from > 60, false);
                from = -1;
            }
        }
    }
}
