import java.io.IOException;
import java.lang.reflect.Constructor;
import java.lang.reflect.Field;
import java.lang.reflect.Method;
import java.lang.reflect.Modifier;
import java.nio.file.Files;
import java.nio.file.Path;
import java.util.Arrays;
import java.util.Set;
import java.util.TreeSet;
import java.util.regex.Matcher;
import java.util.regex.Pattern;

/** The public face, and the rules of LANGUAGE.md that can be seen from the text. */
public final class FaceTest {
    private static final Path SOURCE = Path.of("src/main/java/PerhapsWas.java");
    private static final String[] FACE = {
        "int process()", "int own(int,int,int,int)", "int send(int,int)", "int take(int)", "int wait(int,int)",
        "int undo()", "int event(int,int,int)", "int letter(int,int)", "int ahead(int,int,int,int)",
        "int clock(int,int,int)", "int possible(int)", "int cuts(int)", "int next(int)", "int join(int,int,int)",
        "int least(int,int)", "long orders()", "int order(long,int)", "int number(int)", "int part(int,int,int)",
        "int op(int)", "int condition()", "int clear(int)", "int value(int,int)", "int status()", "int may(int)",
        "int last(int)", "int many(int)", "int sure(int)", "int avoid(int,int)", "long avoids(int)",
        "int is(int,int)", "int before(int,int)", "int say(int)", "int check()", "int passes(int)", "int count(int)",
    };
    private static final String[] FORBIDDEN = {
        "throw", "throws", "try", "catch", "synchronized", "assert", "->", "::", "protected", "package",
        "float", "double", "Object", "hashCode", "toString", "System", "Thread", "Random",
    };
    private static final Due due = new Due("FaceTest");

    public static void main(String[] args) throws IOException {
        methods();
        fieldsAndConstructors();
        nestedClasses();
        text();
        due.end();
    }

    private static String told(Method method) {
        StringBuilder text = new StringBuilder(method.getReturnType() + " " + method.getName() + "(");
        for (Class<?> type : method.getParameterTypes()) {
            text.append(text.charAt(text.length() - 1) == '(' ? "" : ",").append(type);
        }
        return text.append(")").toString();
    }

    private static void methods() {
        Set<String> open = new TreeSet<>();
        Set<String> names = new TreeSet<>();
        for (Method method : PerhapsWas.class.getDeclaredMethods()) {
            if (!Modifier.isPrivate(method.getModifiers())) {
                open.add(told(method));
                names.add(method.getName());
                due.holds(method + " is public", Modifier.isPublic(method.getModifiers()));
            }
        }
        due.holds("the methods are " + open, open.equals(new TreeSet<>(Arrays.asList(FACE))));
        for (Method method : PerhapsWas.class.getDeclaredMethods()) {
            boolean hidden = Modifier.isPrivate(method.getModifiers());
            due.holds(method + " has a name of its own", !hidden || !names.contains(method.getName()));
        }
        for (Class<?> nested : PerhapsWas.class.getDeclaredClasses()) {
            for (Method method : nested.getDeclaredMethods()) {
                due.holds(method + " has a name of its own", !names.contains(method.getName()));
            }
        }
    }

    private static void fieldsAndConstructors() {
        due.holds("public final class", PerhapsWas.class.getModifiers() == (Modifier.PUBLIC | Modifier.FINAL));
        Set<String> open = new TreeSet<>();
        for (Field field : PerhapsWas.class.getDeclaredFields()) {
            int bits = field.getModifiers();
            if (!Modifier.isPrivate(bits)) {
                open.add(field.getName());
            }
            due.holds(field + " is final if it is static", !Modifier.isStatic(bits) || Modifier.isFinal(bits));
        }
        due.holds("the constants are " + open, open.equals(Set.of("NONE", "BAD", "STATE", "FULL")));
        Constructor<?>[] constructors = PerhapsWas.class.getDeclaredConstructors();
        due.is("constructors", constructors.length, 1);
        due.is("their parameters", constructors[0].getParameterCount(), 0);
        due.holds("public constructor", Modifier.isPublic(constructors[0].getModifiers()));
    }

    private static void nestedClasses() {
        Class<?>[] nested = PerhapsWas.class.getDeclaredClasses();
        due.holds("at most twelve classes", nested.length < 12);
        for (Class<?> one : nested) {
            due.holds(one + " is private and static", Modifier.isPrivate(one.getModifiers()) && Modifier.isStatic(one.getModifiers()));
            due.holds(one + " has at most twenty fields", one.getDeclaredFields().length <= 20);
            for (Field field : one.getDeclaredFields()) {
                due.holds(field + " is not static", !Modifier.isStatic(field.getModifiers()));
            }
        }
    }

    private static void text() throws IOException {
        String text = Files.readString(SOURCE);
        String code = text.replaceAll("(?s)/\\*.*?\\*/", " ").replaceAll("//[^\n]*", " ");
        for (String word : FORBIDDEN) {
            String edge = Character.isLetter(word.charAt(0)) ? "\\b" : "";
            due.holds("no " + word, !Pattern.compile(edge + Pattern.quote(word) + edge).matcher(code).find());
        }
        due.holds("characters below 256", text.chars().allMatch(c -> c < 256));
        Matcher imports = Pattern.compile("import [^;]*;").matcher(code);
        while (imports.find()) {
            due.holds(imports.group(), imports.group().equals("import java.util.Arrays;"));
        }
    }
}
