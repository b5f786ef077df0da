import java.io.IOException;
import java.lang.reflect.Constructor;
import java.lang.reflect.Field;
import java.lang.reflect.Method;
import java.lang.reflect.Modifier;
import java.nio.file.Files;
import java.nio.file.Path;
import java.util.Arrays;
import java.util.Set;
import java.util.TreeSet;

/** The public face of the document, and those rules of LANGUAGE.md that can be seen from outside; run in the project's folder. */
public final class FaceTest {
    private static final Due D = new Due();
    private static final String[] FACE = {
        "int begins(int)", "int opens(int,int)", "int sends(int,int,int,int,int)", "int ends(int,int,int)",
        "int carries(int,int,int,int)", "int ticks(int)", "int limit(int)", "int writer(int,int)",
        "int entry(int,int,int)", "int part(int,int)", "int aborted(int,int,int)", "int reads(int,int)",
        "int rewinds(int)", "int reader(int,int,int)", "int type(int)", "int clear()", "int does()", "int asked()",
        "int all(int)", "int back()", "int told(int)", "long digest()",
    };

    public static void main(String[] args) throws IOException {
        constants();
        methods();
        members();
        nested();
        source(Files.readString(Path.of("src/main/java/OnceLetters.java")));
        D.end();
    }

    private static void constants() {
        D.about("constants");
        D.due("NONE", OnceLetters.NONE, -1);
        D.due("BAD", OnceLetters.BAD, -2);
        D.due("STATE", OnceLetters.STATE, -3);
        D.due("FULL", OnceLetters.FULL, -4);
        D.due("FENCED", OnceLetters.FENCED, -6);
        D.due("GAP", OnceLetters.GAP, -7);
        D.due("TWIN", OnceLetters.TWIN, 1000);
    }

    private static String signature(Method method) {
        StringBuilder s = new StringBuilder();
        for (Class<?> type : method.getParameterTypes()) {
            s.append(s.length() == 0 ? "" : ",").append(type.getName());
        }
        return method.getReturnType().getName() + " " + method.getName() + "(" + s + ")";
    }

    private static void methods() {
        D.about("methods");
        Set<String> found = new TreeSet<>();
        for (Method method : OnceLetters.class.getDeclaredMethods()) {
            if (!Modifier.isPrivate(method.getModifiers())) {
                found.add(signature(method));
                D.holds(method + " is public and of the object",
                    Modifier.isPublic(method.getModifiers()) && !Modifier.isStatic(method.getModifiers()));
            }
        }
        D.holds("the face is " + found, found.equals(new TreeSet<>(Arrays.asList(FACE))));
    }

    private static void members() {
        D.about("members");
        D.holds("public final", OnceLetters.class.getModifiers() == (Modifier.PUBLIC | Modifier.FINAL));
        Constructor<?>[] constructors = OnceLetters.class.getDeclaredConstructors();
        D.due("constructors", constructors.length, 1);
        D.holds("public", Modifier.isPublic(constructors[0].getModifiers()));
        D.due("parameters", constructors[0].getParameterCount(), 0);
        int open = 0;
        for (Field field : OnceLetters.class.getDeclaredFields()) {
            open += Modifier.isPrivate(field.getModifiers()) ? 0 : 1;
        }
        D.due("fields that are not private", open, 7);
    }

    private static void nested() {
        D.about("classes");
        Set<String> names = new TreeSet<>();
        for (String s : FACE) {
            names.add(s.substring(s.indexOf(' ') + 1, s.indexOf('(')));
        }
        Class<?>[] inside = OnceLetters.class.getDeclaredClasses();
        D.holds("at most twelve", inside.length < 12);
        for (Class<?> c : inside) {
            D.holds(c + " is static", Modifier.isStatic(c.getModifiers()) && !Modifier.isPublic(c.getModifiers()));
            for (Method method : c.getDeclaredMethods()) {
                D.holds(method + " has a name of its own", !names.contains(method.getName()));
            }
            fields(c);
        }
        fields(OnceLetters.class);
    }

    private static void fields(Class<?> c) {
        int own = 0;
        for (Field field : c.getDeclaredFields()) {
            boolean isStatic = Modifier.isStatic(field.getModifiers());
            D.holds(field + " is final if it is static", !isStatic || Modifier.isFinal(field.getModifiers()));
            own += isStatic ? 0 : 1;
        }
        D.holds(c + " has at most twenty fields", own <= 20);
        for (Method method : c.getDeclaredMethods()) {
            D.holds(method + " has at most seven parameters", method.getParameterCount() <= 7);
        }
    }

    private static void source(String text) {
        D.about("source");
        String code = text.replaceAll("(?s)/\\*.*?\\*/", " ").replaceAll("//[^\n]*", " ");
        Set<String> words = new TreeSet<>(Arrays.asList(code.split("[^A-Za-z0-9_]+")));
        String[] none = {"throw", "throws", "try", "catch", "synchronized", "assert", "import", "package", "protected",
            "Object", "var", "Thread", "equals", "hashCode", "toString", "Exception", "volatile", "native"};
        for (String word : none) {
            D.holds("no '" + word + "'", !words.contains(word));
        }
        D.holds("no lambda", !code.contains("->"));
        D.holds("no method reference", !code.contains("::"));
        D.holds("no annotation", !code.contains("@"));
        D.holds("plain signs", text.chars().allMatch(c -> c == '\n' || (c >= 32 && c < 127)));
    }
}
