import java.lang.reflect.Constructor;
import java.lang.reflect.Field;
import java.lang.reflect.Method;
import java.lang.reflect.Modifier;
import java.util.TreeSet;

/** The public face: its members and no others, and the constants. */
final class FaceTest {
    private static final String[] METHODS = {
        "int step(int,int,int,boolean)", "int need(int,int)", "int fault(int,int)", "int hands(int)",
        "int cancel(int)", "int milestone(int,int)", "int days(int)", "int stepOf(int,int)", "int ready(int)",
        "int milestoneOf(int,int)", "int late()", "int doneIn(int)", "int chain(int)", "int chainAgain(int)",
        "int logged(int,int)", "int ranked(int)", "int append(int)", "int run()", "int tell(int)",
        "int tellAll()", "int character(int)", "int reason(boolean)", "int account(int)", "int isBalanced()",
        "double meanDays()", "float wrongShare()", "int undo()", "int save()", "int restore()",
    };

    public static void main(String[] args) {
        Check c = new Check("FaceTest");
        Class<?> face = TrousseauFlow.class;
        c.due("the class is public and final", face.getModifiers(), Modifier.PUBLIC | Modifier.FINAL);
        TreeSet<String> due = new TreeSet<>();
        for (String method : METHODS) {
            due.add(method);
        }
        c.dueText("methods", openMethods(face).toString(), due.toString());
        c.dueText("constants", openFields(face).toString(), "[BAD, FULL, NONE, NOTHING, REFUSED]");
        Constructor<?>[] made = face.getDeclaredConstructors();
        c.due("constructors", made.length, 1);
        c.due("the constructor's parameters", made[0].getParameterCount(), 0);
        c.due("the constructor is public", made[0].getModifiers(), Modifier.PUBLIC);
        c.due("NONE", TrousseauFlow.NONE, -11);
        c.due("BAD", TrousseauFlow.BAD, -12);
        c.due("FULL", TrousseauFlow.FULL, -13);
        c.due("REFUSED", TrousseauFlow.REFUSED, -14);
        c.due("NOTHING", TrousseauFlow.NOTHING, -15);
        c.end();
    }

    private static TreeSet<String> openMethods(Class<?> face) {
        TreeSet<String> found = new TreeSet<>();
        for (Method m : face.getDeclaredMethods()) {
            if (Modifier.isPrivate(m.getModifiers())) {
                continue;
            }
            StringBuilder text = new StringBuilder();
            text.append(m.getModifiers() == Modifier.PUBLIC ? "" : Modifier.toString(m.getModifiers()) + " ");
            text.append(m.getReturnType().getName()).append(' ').append(m.getName()).append('(');
            String between = "";
            for (Class<?> parameter : m.getParameterTypes()) {
                text.append(between).append(parameter.getName());
                between = ",";
            }
            found.add(text.append(')').toString());
        }
        return found;
    }

    private static TreeSet<String> openFields(Class<?> face) {
        TreeSet<String> found = new TreeSet<>();
        for (Field f : face.getDeclaredFields()) {
            if (!Modifier.isPrivate(f.getModifiers())) {
                found.add(f.getName());
            }
        }
        return found;
    }
}
