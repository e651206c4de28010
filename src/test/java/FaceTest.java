import java.lang.reflect.Constructor;
import java.lang.reflect.Field;
import java.lang.reflect.Method;
import java.lang.reflect.Modifier;
import java.util.Arrays;
import java.util.TreeSet;

/** The public face is the document's, and nothing beside it can be reached. */
public final class FaceTest {
    private static final String IOOBE = "IndexOutOfBoundsException";
    private static final String IAE = "IllegalArgumentException";
    private static final String ISE = "IllegalStateException";

    public static void main(String[] args) {
        Checks checks = new Checks();
        TreeSet<String> due = new TreeSet<>(Arrays.asList(
                "int wind(int,int) " + IOOBE + " " + IAE,
                "int drag(int,int,int,int) " + IOOBE + " " + IAE,
                "int clean(int) " + IOOBE,
                "int correct(int,int) " + IOOBE + " " + IAE,
                "int set(int,int) " + IOOBE + " " + IAE,
                "int shoot(int,int) " + IOOBE + " " + IAE,
                "int append(int) " + IAE + " " + ISE,
                "int clearBuffer()",
                "int firstError()",
                "int play() " + IAE,
                "int undo() " + ISE,
                "int curtain(int,int) " + IOOBE + " " + IAE,
                "int column(int,int,int) " + IOOBE + " " + IAE,
                "int speed(int,int) " + IOOBE + " " + IAE,
                "int count(int) " + IAE,
                "int setting(int) " + IOOBE,
                "int bestCorrection(int) " + IOOBE,
                "int bestSpring(int,int) " + IOOBE,
                "int ifShot(int,int,int) " + IOOBE + " " + IAE,
                "int goodFor(int,int) " + IOOBE + " " + IAE,
                "double evenness(int) " + IOOBE,
                "long digest()"));
        TreeSet<String> got = new TreeSet<>();
        for (Method method : ShutterBench.class.getDeclaredMethods()) {
            if (!Modifier.isPrivate(method.getModifiers())) {
                got.add(told(method));
            }
        }
        checks.same("methods", got.toString(), due.toString());
        for (Field field : ShutterBench.class.getDeclaredFields()) {
            int is = field.getModifiers();
            boolean isNone = field.getName().equals("NONE");
            checks.same(field.getName() + " is private", Modifier.isPrivate(is) ? 1 : 0, isNone ? 0 : 1);
            checks.same(field.getName() + " is final where static",
                    !Modifier.isStatic(is) || Modifier.isFinal(is) ? 1 : 0, 1);
        }
        Constructor<?>[] constructors = ShutterBench.class.getDeclaredConstructors();
        checks.same("constructors", constructors.length, 1);
        checks.same("the constructor is public", constructors[0].getModifiers(), Modifier.PUBLIC);
        checks.same("the class", ShutterBench.class.getModifiers(), Modifier.PUBLIC | Modifier.FINAL);
        checks.same("NONE", ShutterBench.NONE, -1);
        checks.end("FaceTest");
    }

    private static String told(Method method) {
        StringBuilder text = new StringBuilder();
        text.append(method.getReturnType().getSimpleName()).append(' ').append(method.getName()).append('(');
        String between = "";
        for (Class<?> type : method.getParameterTypes()) {
            text.append(between).append(type.getSimpleName());
            between = ",";
        }
        text.append(')');
        for (Class<?> type : method.getExceptionTypes()) {
            text.append(' ').append(type.getSimpleName());
        }
        return text.toString();
    }
}
