import java.lang.reflect.Constructor;
import java.lang.reflect.Executable;
import java.lang.reflect.Field;
import java.lang.reflect.Method;
import java.lang.reflect.Modifier;
import java.nio.file.Files;
import java.nio.file.Path;
import java.util.ArrayList;
import java.util.List;
import java.util.Set;
import java.util.TreeSet;
import java.util.regex.Pattern;

// The public face as the document has it, and the rules of LANGUAGE.md that can be read off class and source.
public final class FaceTest {
    private static final String SOURCE = "src/main/java/SwellBodies.java";
    private static final String FACE = String.join("\n",
        "int corner(int, int, int)", "int sheaf(int, int, int)", "int lay(int, int, long)",
        "int draw(int, int, int)", "int clear()", "int body()", "int drop()", "int about(int, int)",
        "int cornerOf(int, int, int)", "int side(int, int, int)", "int on(int, int)",
        "int has(int, int, int, int, int)", "int count(int, int)", "int inner(int, int)",
        "int number(int, int)", "long rule(int, int)", "int stairs(int, int)",
        "int point(int, int, int, int)", "int rank(int, int, int, int, int)",
        "int move(int, int, int, int)", "int turn(int, int)", "int join(int, int)",
        "int slice(int, int, int)", "int within(int, int)", "int same(int, int)",
        "int most(int, int, int, int, boolean)", "int all(int)");
    private static final String[] FORBIDDEN = {
        "\\bthrow\\b", "\\bthrows\\b", "\\btry\\b", "\\bcatch\\b", "\\bfinally\\b", "\\bsynchronized\\b",
        "\\bassert\\b", "->", "::", "Exact\\b", "\\bimport\\b", "\\bpackage\\b", "\\bSystem\\.(?!arraycopy)",
        "\\bhashCode\\b", "\\btoString\\b", "\\bequals\\b", "\\bdouble\\b", "\\bfloat\\b", "\\bstatic\\s*\\{"};

    private static int wrong = 0;

    private static void due(String what, boolean holds) {
        if (!holds) {
            wrong++;
            System.out.println("not as due: " + what);
        }
    }

    public static void main(String[] args) throws Exception {
        constants();
        members();
        for (Class<?> inside : classes()) {
            insides(inside);
        }
        source();
        System.out.println(wrong == 0 ? "all is as due" : wrong + " things are not as due");
        if (wrong != 0) {
            System.exit(1);
        }
    }

    private static List<Class<?>> classes() {
        List<Class<?>> all = new ArrayList<>(List.of(SwellBodies.class));
        all.addAll(List.of(SwellBodies.class.getDeclaredClasses()));
        return all;
    }

    private static void constants() throws Exception {
        String[] names = {"BAD", "STATE", "FULL", "NONE"};
        for (int i = 0; i < names.length; i++) {
            Field field = SwellBodies.class.getDeclaredField(names[i]);
            int kind = Modifier.PUBLIC | Modifier.STATIC | Modifier.FINAL;
            due(names[i] + " is a public constant", field.getModifiers() == kind && field.getType() == int.class);
            due(names[i] + " is " + (-1 - i), field.getInt(null) == -1 - i);
        }
        due("no other public field", SwellBodies.class.getFields().length == names.length);
    }

    private static void members() {
        due("the class is public and final",
            SwellBodies.class.getModifiers() == (Modifier.PUBLIC | Modifier.FINAL));
        Constructor<?>[] made = SwellBodies.class.getDeclaredConstructors();
        due("one public constructor without parameters", made.length == 1 && made[0].getParameterCount() == 0
            && made[0].getModifiers() == Modifier.PUBLIC);
        Set<String> face = new TreeSet<>();
        for (Method method : SwellBodies.class.getDeclaredMethods()) {
            if (method.getModifiers() == Modifier.PUBLIC) {
                face.add(told(method));
            } else {
                due(method.getName() + " is private", Modifier.isPrivate(method.getModifiers()));
            }
        }
        Set<String> want = new TreeSet<>(List.of(FACE.split("\n")));
        due("the face, " + face, face.equals(want));
        for (Field field : SwellBodies.class.getDeclaredFields()) {
            int kind = field.getModifiers();
            due(field.getName() + " is public or private", Modifier.isPublic(kind) || Modifier.isPrivate(kind));
        }
    }

    private static String told(Method method) {
        List<String> types = new ArrayList<>();
        for (Class<?> type : method.getParameterTypes()) {
            types.add(type.getName());
        }
        return method.getReturnType().getName() + " " + method.getName() + "(" + String.join(", ", types) + ")";
    }

    private static void insides(Class<?> of) {
        due(of.getName() + " is static", of == SwellBodies.class || Modifier.isStatic(of.getModifiers()));
        due(of.getName() + " is not public or protected", of == SwellBodies.class
            || (of.getModifiers() & (Modifier.PUBLIC | Modifier.PROTECTED)) == 0);
        int fields = 0;
        for (Field field : of.getDeclaredFields()) {
            boolean constant = Modifier.isStatic(field.getModifiers());
            fields += constant ? 0 : 1;
            due(field + " is final if it is static", !constant || Modifier.isFinal(field.getModifiers()));
        }
        due(of.getName() + " has some twenty fields at most", fields <= 20);
        List<Executable> calls = new ArrayList<>(List.of(of.getDeclaredMethods()));
        calls.addAll(List.of(of.getDeclaredConstructors()));
        for (Executable call : calls) {
            due(call + " has at most seven parameters", call.getParameterCount() <= 7);
            boolean ofFace = call instanceof Method && Modifier.isPublic(call.getModifiers());
            due(call + " bears no name of the face", ofFace || !FACE.contains(" " + call.getName() + "("));
        }
    }

    private static void source() throws Exception {
        String code = Files.readString(Path.of(SOURCE))
            .replaceAll("(?s)/\\*.*?\\*/", " ").replaceAll("//[^\n]*", " ").replaceAll("\"[^\"\n]*\"", " ");
        for (String pattern : FORBIDDEN) {
            due("no " + pattern + " in the source", !Pattern.compile(pattern).matcher(code).find());
        }
        due("twelve classes at most", classes().size() <= 12);
    }
}
