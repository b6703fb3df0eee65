import java.lang.reflect.Constructor;
import java.lang.reflect.Field;
import java.lang.reflect.Method;
import java.lang.reflect.Modifier;
import java.util.Arrays;
import java.util.Set;
import java.util.TreeSet;

/** The public face: what the document names, and nothing else. */
public final class FaceTest {
    private static final String ARGUMENT = " IllegalArgumentException";
    private static final String STATE = " IllegalStateException";
    private static final String BOUNDS = " IndexOutOfBoundsException";
    private static final String[] FACE = {
        "int begin(int)" + ARGUMENT,
        "int addPackage(int,int,int)" + BOUNDS + ARGUMENT + STATE,
        "int publish(int)" + BOUNDS + STATE,
        "int release()" + STATE,
        "int setValidity(int)" + ARGUMENT,
        "int append(int)" + ARGUMENT + STATE,
        "int clearInput()",
        "int firstError()",
        "int load()" + ARGUMENT,
        "int addMirror(int,int,int,int,int,boolean)" + BOUNDS + ARGUMENT + STATE,
        "int tamper(int)" + BOUNDS + STATE,
        "int removeFile(int,int,int)" + BOUNDS + STATE,
        "int pass(int)" + ARGUMENT,
        "int mirror(int,int)" + BOUNDS + ARGUMENT,
        "int files(int,int)" + BOUNDS,
        "int addClient(int)" + ARGUMENT + STATE,
        "int install(int,int)" + BOUNDS + ARGUMENT,
        "int ifInstalled(int,int,int)" + BOUNDS + ARGUMENT,
        "int until(int,int)" + BOUNDS + ARGUMENT,
        "int client(int,int)" + BOUNDS + ARGUMENT,
        "int count(int)" + ARGUMENT,
        "int packageAt(int,int)" + BOUNDS + ARGUMENT,
        "int index(int,int)" + BOUNDS + ARGUMENT,
        "double meanAge()",
        "long digest()",
    };

    public static void main(String[] args) {
        methods();
        fieldsAndConstructors();
        noNameTwice();
        Check.end();
    }

    private static String face(Method method) {
        StringBuilder text = new StringBuilder();
        text.append(method.getReturnType().getSimpleName()).append(' ').append(method.getName()).append('(');
        for (int i = 0; i < method.getParameterCount(); i++) {
            text.append(i == 0 ? "" : ",").append(method.getParameterTypes()[i].getSimpleName());
        }
        text.append(')');
        for (Class<?> thrown : method.getExceptionTypes()) {
            text.append(' ').append(thrown.getSimpleName());
        }
        return text.toString();
    }

    private static void methods() {
        Set<String> found = new TreeSet<>();
        for (Method method : ArchiveMirrors.class.getDeclaredMethods()) {
            if (Modifier.isPublic(method.getModifiers()) && !Modifier.isStatic(method.getModifiers())) {
                found.add(face(method));
            } else if (!Modifier.isPrivate(method.getModifiers())) {
                Check.fail("a method that is neither public nor private: " + method);
            }
        }
        Set<String> due = new TreeSet<>(Arrays.asList(FACE));
        if (!found.equals(due)) {
            Check.fail("the face is " + found + ", due is " + due);
        }
    }

    private static void fieldsAndConstructors() {
        if (!Modifier.isFinal(ArchiveMirrors.class.getModifiers())) {
            Check.fail("the class is not final");
        }
        for (Field field : ArchiveMirrors.class.getDeclaredFields()) {
            if (!Modifier.isPrivate(field.getModifiers()) && !field.getName().equals("NONE")) {
                Check.fail("a field that is not private: " + field);
            }
        }
        Constructor<?>[] constructors = ArchiveMirrors.class.getDeclaredConstructors();
        boolean one = constructors.length == 1 && constructors[0].getParameterCount() == 0;
        if (!one || !Modifier.isPublic(constructors[0].getModifiers())) {
            Check.fail("the constructors are " + Arrays.toString(constructors));
        }
    }

    /** No method but the public one bears its name, neither here nor in the classes inside. */
    private static void noNameTwice() {
        Set<String> names = new TreeSet<>();
        for (String line : FACE) {
            names.add(line.substring(line.indexOf(' ') + 1, line.indexOf('(')));
        }
        for (Method method : ArchiveMirrors.class.getDeclaredMethods()) {
            if (!Modifier.isPublic(method.getModifiers()) && names.contains(method.getName())) {
                Check.fail("a private method with a public name: " + method);
            }
        }
        for (Class<?> inside : ArchiveMirrors.class.getDeclaredClasses()) {
            for (Method method : inside.getDeclaredMethods()) {
                if (names.contains(method.getName())) {
                    Check.fail("a method inside with a public name: " + method);
                }
            }
        }
    }
}
