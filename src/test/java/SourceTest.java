import java.io.IOException;
import java.lang.reflect.Constructor;
import java.lang.reflect.Field;
import java.lang.reflect.Method;
import java.lang.reflect.Modifier;
import java.nio.file.Files;
import java.nio.file.Path;
import java.util.Arrays;
import java.util.HashSet;
import java.util.List;
import java.util.Set;
import java.util.TreeSet;
import java.util.regex.Matcher;
import java.util.regex.Pattern;

/** The face, word for word, and what of ../shared/LANGUAGE.md a look at the text can tell. Run from the root. */
public final class SourceTest {
    private static final List<String> FACE = List.of("int letter(int)", "int blank()", "int fault()", "int town()",
        "int singer(int,int)", "int as(int,int)", "int widow(int,int)", "int wince(int,int)", "int cold(int,boolean)",
        "int aisle(int,boolean)", "int honey(int,int)", "int practise(int)", "int mayor()", "int need(int,int)",
        "int hear(int,int,int,boolean)", "int forget()", "int years(int,int,int)", "int image()", "int restore()",
        "int count(int)", "long digest()");
    private static final List<String> NOT_ALLOWED = List.of("throw", "throws", "try", "catch", "finally",
        "synchronized", "assert", "import", "package", "->", "::", "@", "Exact", "equals", "hashCode", "toString",
        "volatile", "protected", "double", "float");

    private static final Due DUE = new Due();

    public static void main(String[] args) throws IOException {
        face();
        constants();
        nestedClasses();
        String source = Files.readString(Path.of("src/main/java/WorstVoice.java"));
        words(source.replaceAll("/\\*\\*(?s:.*?)\\*/|//[^\n]*", ""));
        lines(source);
        DUE.end();
    }

    private static void face() {
        DUE.due("WorstVoice is public and final", WorstVoice.class.getModifiers(), Modifier.PUBLIC | Modifier.FINAL);
        Constructor<?>[] constructors = WorstVoice.class.getDeclaredConstructors();
        DUE.due("one constructor", constructors.length, 1);
        DUE.due("it is public and takes nothing", constructors[0].getModifiers() + constructors[0].getParameterCount(),
            Modifier.PUBLIC);
        Set<String> open = new TreeSet<>();
        Set<String> names = new HashSet<>();
        for (Method method : WorstVoice.class.getDeclaredMethods()) {
            if (!Modifier.isPrivate(method.getModifiers()) && !method.isSynthetic()) {
                open.add(told(method));
                names.add(method.getName());
                DUE.due(method.getName() + " is public alone", method.getModifiers(), Modifier.PUBLIC);
            }
        }
        DUE.due("the face " + open, open.equals(new TreeSet<>(FACE)) ? 1 : 0, 1);
        for (Class<?> one : allClasses()) {
            for (Method method : one.getDeclaredMethods()) {
                boolean isFace = one == WorstVoice.class && !Modifier.isPrivate(method.getModifiers());
                DUE.due("a name of the face inside: " + method, !isFace && names.contains(method.getName()) ? 1 : 0, 0);
                DUE.due("parameters of " + method, method.getParameterCount() > 7 ? 1 : 0, 0);
            }
        }
    }

    private static String told(Method method) {
        StringBuilder told = new StringBuilder(method.getReturnType().getName()).append(' ').append(method.getName());
        String[] types = Arrays.stream(method.getParameterTypes()).map(Class::getName).toArray(String[]::new);
        return told.append('(').append(String.join(",", types)).append(')').toString();
    }

    private static Set<Class<?>> allClasses() {
        Set<Class<?>> all = new HashSet<>(List.of(WorstVoice.class.getDeclaredClasses()));
        all.add(WorstVoice.class);
        return all;
    }

    private static void constants() {
        DUE.due("NONE", WorstVoice.NONE, -1);
        DUE.due("UNKNOWN", WorstVoice.UNKNOWN, -101);
        DUE.due("OUTSIDE", WorstVoice.OUTSIDE, -102);
        DUE.due("STATE", WorstVoice.STATE, -103);
        DUE.due("FULL", WorstVoice.FULL, -104);
        int open = 0;
        for (Class<?> one : allClasses()) {
            int fields = 0;
            for (Field field : one.getDeclaredFields()) {
                int marks = field.getModifiers();
                open += Modifier.isPrivate(marks) ? 0 : 1;
                fields += Modifier.isStatic(marks) ? 0 : 1;
                DUE.due("final if static: " + field, Modifier.isStatic(marks) && !Modifier.isFinal(marks) ? 1 : 0, 0);
            }
            DUE.due("fields of " + one, fields > 20 ? 1 : 0, 0);
        }
        DUE.due("open constants", open, 5);
    }

    private static void nestedClasses() {
        DUE.due("classes", allClasses().size() > 12 ? 1 : 0, 0);
        for (Class<?> one : WorstVoice.class.getDeclaredClasses()) {
            int marks = one.getModifiers();
            DUE.due("static: " + one, Modifier.isStatic(marks) ? 1 : 0, 1);
            DUE.due("closed: " + one, Modifier.isPublic(marks) || Modifier.isProtected(marks) ? 1 : 0, 0);
        }
    }

    private static void words(String code) {
        for (String word : NOT_ALLOWED) {
            boolean isWord = Character.isLetter(word.charAt(0)) && !word.equals("Exact");
            String quoted = Pattern.quote(word);
            Matcher found = Pattern.compile(isWord ? "\\b" + quoted + "\\b" : quoted).matcher(code);
            DUE.due("the word " + word, found.find() ? 1 : 0, 0);
        }
        Set<String> library = new TreeSet<>();
        Matcher named = Pattern.compile("\\b(Math|Integer|Long|System|Arrays|String|StringBuilder)\\.\\w+").matcher(code);
        while (named.find()) {
            library.add(named.group());
        }
        Set<String> listed = Set.of("Math.max", "Math.min", "Integer.bitCount", "System.arraycopy");
        DUE.due("of the library " + library, listed.containsAll(library) ? 1 : 0, 1);
    }

    /** Methods are short; objects and rows are made by constructors and fields alone, none by a call. */
    private static void lines(String source) {
        String[] lines = source.split("\n");
        int start = 0;
        for (int at = 0; at < lines.length; at++) {
            String line = lines[at];
            DUE.due("line " + (at + 1) + " is too long", line.length() > 120 ? 1 : 0, 0);
            if (line.matches(" {4}(    )?[\\w].*\\) \\{") && !line.contains(" class ")) {
                start = at;
            }
            if (line.matches(" {4}(    )?\\}") && start > 0) {
                DUE.due("the method at line " + (start + 1) + " is too long", at - start > 60 ? 1 : 0, 0);
            }
            boolean makes = line.contains("new ") && !line.trim().startsWith("private final ");
            boolean isInConstructor = start > 0 && lines[start].contains("public WorstVoice()");
            DUE.due("line " + (at + 1) + " makes something", makes && !isInConstructor ? 1 : 0, 0);
        }
    }
}
