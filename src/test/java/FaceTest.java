import java.lang.reflect.Constructor;
import java.lang.reflect.Field;
import java.lang.reflect.Method;
import java.lang.reflect.Modifier;
import java.util.ArrayList;
import java.util.List;
import java.util.TreeSet;

/** The public face is the document's and nothing more. */
public final class FaceTest {
    private static final String S = Check.STATE;
    private static final String I = Check.INDEX;
    private static final String U = Check.UNSUPPORTED;

    private static final String[] FACE = {
        "int makeVolume() " + S,
        "void write(int,int,int,int,int) " + S + " " + I,
        "void fill(int,int,int,int,int,int,int) " + S + " " + I,
        "int read(int,int,int,int) " + S + " " + I,
        "int split() " + S,
        "void rejoin(int,int) " + S + " " + I + " " + U,
        "int step(int) " + S + " " + I + " " + U,
        "int run(int) " + S + " " + I + " " + U,
        "int state(int)",
        "int marked(int,int)",
        "int windowed(int)",
        "int volumes()",
        "int differing(int) " + I,
        "int raw(int,int,int,int) " + I,
        "int head(int,int) " + I,
        "int copied()",
        "int writes()",
        "int power()",
        "void cutAfter(int) " + Check.ARGUMENT,
        "int start() " + S,
    };

    public static void main(String[] args) {
        Class<?> face = MirrorGroup.class;
        Check.due("public and final", face.getModifiers(), Modifier.PUBLIC | Modifier.FINAL);
        methodsAreTheDocuments(face);
        constructorsAreTheDocuments(face);
        fieldsAreHidden(face);
        Check.due("NONE", MirrorGroup.NONE, -1);
        Check.finish("FaceTest");
    }

    private static void methodsAreTheDocuments(Class<?> face) {
        TreeSet<String> open = new TreeSet<>();
        TreeSet<String> openNames = new TreeSet<>();
        List<String> hiddenNames = new ArrayList<>();
        for (Method method : face.getDeclaredMethods()) {
            if (Modifier.isPrivate(method.getModifiers())) {
                hiddenNames.add(method.getName());
            } else {
                Check.due(method.getName() + " modifiers", method.getModifiers(), Modifier.PUBLIC);
                open.add(textOf(method));
                openNames.add(method.getName());
            }
        }
        Check.dueText("methods", open.toString(), new TreeSet<>(List.of(FACE)).toString());
        for (String name : hiddenNames) {
            Check.due("a private method named as a public one, " + name,
                    openNames.contains(name) ? 1 : 0, 0);
        }
    }

    private static String textOf(Method method) {
        StringBuilder text = new StringBuilder();
        text.append(method.getReturnType().getSimpleName()).append(' ').append(method.getName());
        text.append('(');
        String comma = "";
        for (Class<?> type : method.getParameterTypes()) {
            text.append(comma).append(type.getSimpleName());
            comma = ",";
        }
        text.append(')');
        for (Class<?> type : method.getExceptionTypes()) {
            text.append(' ').append(type.getSimpleName());
        }
        return text.toString();
    }

    private static void constructorsAreTheDocuments(Class<?> face) {
        Constructor<?>[] constructors = face.getDeclaredConstructors();
        Check.due("constructors", constructors.length, 1);
        Check.due("constructor modifiers", constructors[0].getModifiers(), Modifier.PUBLIC);
        Check.due("constructor parameters", constructors[0].getParameterCount(), 0);
    }

    private static void fieldsAreHidden(Class<?> face) {
        for (Field field : face.getDeclaredFields()) {
            int modifiers = field.getModifiers();
            boolean isConstant = field.getName().equals("NONE");
            Check.due(field.getName() + " is private", Modifier.isPrivate(modifiers) ? 1 : 0,
                    isConstant ? 0 : 1);
            if (Modifier.isStatic(modifiers)) {
                Check.due(field.getName() + " is final", Modifier.isFinal(modifiers) ? 1 : 0, 1);
            }
        }
    }
}
