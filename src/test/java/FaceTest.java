import java.io.IOException;
import java.lang.reflect.Constructor;
import java.lang.reflect.Field;
import java.lang.reflect.Method;
import java.lang.reflect.Modifier;
import java.nio.file.Files;
import java.nio.file.Path;
import java.util.Arrays;
import java.util.TreeSet;

/** The document's face, and those rules of LANGUAGE.md that can be seen from outside or by words. */
public final class FaceTest {
    private static final String[] METHODS = {
        "int person(int,int)", "int away(int)", "int here(int)", "int rules(int)", "int key(int)",
        "int wipe()", "int paragraph()", "int cut()", "int ofParagraph(int,int)", "int set(int,int)",
        "int hint(int,int)", "int link(int)", "long ways()", "long would(int,int)", "int conflict(int)",
        "int asked()", "int run(int,int)", "int ofPerson(int,int)", "int rank(int)",
        "int written(int,int)", "int many(int)"
    };
    private static final String[] CONSTANTS = {
        "UNKNOWN=-1", "OUTSIDE=-2", "STATE=-3", "FULL=-4", "NONE=-9"
    };
    private static final String[] WORDS_RULED_OUT = {
        "throw", "throws", "try", "catch", "finally", "synchronized", "assert", "import", "package",
        "protected", "hashCode", "toString", "Random", "Thread", "System"
    };
    private static int wrong = 0;

    public static void main(String[] args) throws IOException, IllegalAccessException {
        face();
        inside();
        if (args.length > 0) {
            words(Files.readString(Path.of(args[0])));
        } else {
            due("the class's file is given as an argument", false);
        }
        System.out.println(wrong == 0 ? "the face is as due" : wrong + " faults of the face");
        if (wrong != 0) {
            System.exit(1);
        }
    }

    private static void due(String what, boolean holds) {
        if (!holds) {
            wrong++;
            System.out.println("does not hold: " + what);
        }
    }

    private static void face() throws IllegalAccessException {
        due("public final", WhoSpeaks.class.getModifiers() == (Modifier.PUBLIC | Modifier.FINAL));
        Constructor<?>[] constructors = WhoSpeaks.class.getDeclaredConstructors();
        due("one public constructor without arguments", constructors.length == 1
                && Modifier.isPublic(constructors[0].getModifiers())
                && constructors[0].getParameterCount() == 0);
        TreeSet<String> methods = new TreeSet<>();
        TreeSet<String> names = new TreeSet<>();
        for (Method method : WhoSpeaks.class.getDeclaredMethods()) {
            if (!Modifier.isPrivate(method.getModifiers())) {
                due("public: " + method, method.getModifiers() == Modifier.PUBLIC);
                methods.add(signature(method));
                names.add(method.getName());
            }
        }
        due("methods " + methods, methods.equals(new TreeSet<>(Arrays.asList(METHODS))));
        TreeSet<String> constants = new TreeSet<>();
        for (Field field : WhoSpeaks.class.getDeclaredFields()) {
            if (!Modifier.isPrivate(field.getModifiers())) {
                constants.add(field.getName() + "=" + field.get(null));
            }
        }
        due("constants " + constants, constants.equals(new TreeSet<>(Arrays.asList(CONSTANTS))));
        for (Method method : WhoSpeaks.class.getDeclaredMethods()) {
            due("no private method has a public one's name: " + method,
                    !Modifier.isPrivate(method.getModifiers()) || !names.contains(method.getName()));
        }
    }

    private static String signature(Method method) {
        StringBuilder types = new StringBuilder();
        for (Class<?> type : method.getParameterTypes()) {
            types.append(types.length() == 0 ? "" : ",").append(type.getName());
        }
        return method.getReturnType().getName() + " " + method.getName() + "(" + types + ")";
    }

    private static void inside() {
        Class<?>[] inside = WhoSpeaks.class.getDeclaredClasses();
        due("some twelve classes at most", inside.length <= 11);
        members(WhoSpeaks.class);
        for (Class<?> type : inside) {
            members(type);
            due("static: " + type, Modifier.isStatic(type.getModifiers()));
            due("not public: " + type, !Modifier.isPublic(type.getModifiers()));
            int fields = 0;
            for (Field field : type.getDeclaredFields()) {
                fields += Modifier.isStatic(field.getModifiers()) ? 0 : 1;
            }
            due("some twenty fields at most: " + type, fields <= 20);
        }
    }

    private static void members(Class<?> type) {
        for (Method method : type.getDeclaredMethods()) {
            due("seven parameters at most: " + method, method.getParameterCount() <= 7);
        }
        for (Field field : type.getDeclaredFields()) {
            if (Modifier.isStatic(field.getModifiers())) {
                due("a constant of a number or a text: " + field, field.getType().isPrimitive()
                        || field.getType() == String.class);
                due("final: " + field, Modifier.isFinal(field.getModifiers()));
            }
        }
    }

    private static void words(String source) {
        String code = source.replaceAll("(?s)/\\*.*?\\*/", " ").replaceAll("//[^\n]*", " ");
        TreeSet<String> words = new TreeSet<>(Arrays.asList(code.split("[^A-Za-z0-9_]+")));
        for (String word : WORDS_RULED_OUT) {
            due("the program goes without " + word, !words.contains(word));
        }
        due("no lambda, no method reference", !code.contains("->") && !code.contains("::"));
    }
}
