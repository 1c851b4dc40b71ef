import java.io.IOException;
import java.lang.reflect.Constructor;
import java.lang.reflect.Field;
import java.lang.reflect.Method;
import java.lang.reflect.Modifier;
import java.nio.file.Files;
import java.nio.file.Path;
import java.util.Set;
import java.util.TreeSet;

/** The document's face and what a look at the text can tell of LANGUAGE.md. */
public final class FaceTest {
    private static final Due due = new Due();
    private static final Set<String> FACE = Set.of(
        "int cell(int,long)", "int node(int,int,int)", "int run(int)", "byte at(int,int)",
        "long number(int)", "int record(int,int,int)", "int act(int,int,long,long)",
        "int commit(int)", "int second()", "int segment(int,int)", "int screen(int,int)",
        "double real(int)", "int refused()", "int count(int)");

    public static void main(String[] args) throws IOException {
        methods();
        members();
        text();
        due.finish();
    }

    private static String written(Method method) {
        StringBuilder text = new StringBuilder();
        text.append(method.getReturnType().getName()).append(' ').append(method.getName()).append('(');
        for (Class<?> type : method.getParameterTypes()) {
            text.append(text.charAt(text.length() - 1) == '(' ? "" : ",").append(type.getName());
        }
        return text.append(')').toString();
    }

    private static void methods() {
        Set<String> found = new TreeSet<>();
        Set<String> names = new TreeSet<>();
        for (Method method : PlainCobol.class.getDeclaredMethods()) {
            if (Modifier.isPublic(method.getModifiers())) {
                found.add(written(method));
                names.add(method.getName());
            }
        }
        due.holds("the face is " + FACE + " and not " + found, found.equals(FACE));
        noneBears(PlainCobol.class, names);
        for (Class<?> inner : PlainCobol.class.getDeclaredClasses()) {
            noneBears(inner, names);
        }
    }

    private static void noneBears(Class<?> type, Set<String> names) {
        for (Method method : type.getDeclaredMethods()) {
            boolean isFace = type == PlainCobol.class && Modifier.isPublic(method.getModifiers());
            due.holds(method + " has a name of its own", isFace || !names.contains(method.getName()));
            due.holds(method + " has at most 7 parameters", method.getParameterCount() <= 7);
        }
    }

    private static void members() {
        int type = PlainCobol.class.getModifiers();
        due.holds("public and final", Modifier.isPublic(type) && Modifier.isFinal(type));
        Constructor<?>[] constructors = PlainCobol.class.getDeclaredConstructors();
        due.is("constructors", constructors.length, 1);
        due.holds("it is public", Modifier.isPublic(constructors[0].getModifiers()));
        for (Field field : PlainCobol.class.getDeclaredFields()) {
            boolean isFace = field.getName().equals("NONE");
            due.holds(field + " is private, or NONE", Modifier.isPrivate(field.getModifiers()) != isFace);
        }
        for (Method method : PlainCobol.class.getDeclaredMethods()) {
            int has = method.getModifiers();
            due.holds(method + " is public or private", Modifier.isPublic(has) || Modifier.isPrivate(has));
        }
        Class<?>[] inner = PlainCobol.class.getDeclaredClasses();
        due.holds("at most twelve classes", inner.length < 12);
        for (Class<?> one : inner) {
            due.holds(one + " is static", Modifier.isStatic(one.getModifiers()));
            due.holds(one + " has at most twenty fields", one.getDeclaredFields().length <= 20);
        }
    }

    private static void text() throws IOException {
        String text = Files.readString(Path.of("src/main/java/PlainCobol.java"));
        String[] ruledOut = {"->", "::", "catch", "finally", "synchronized", "assert", "package ",
            "import ", "hashCode", "toString", ".sort(", "random", "Exact(", "instanceof"};
        for (String word : ruledOut) {
            due.holds("no " + word, !text.contains(word));
        }
        String thrown = "throw new ArrayIndexOutOfBoundsException();";
        due.is("one throw alone", text.split("throw new", -1).length, 2);
        due.holds("it is at's", text.contains(thrown));
    }
}
