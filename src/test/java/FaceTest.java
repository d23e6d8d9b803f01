import java.lang.reflect.Constructor;
import java.lang.reflect.Field;
import java.lang.reflect.Method;
import java.lang.reflect.Modifier;
import java.util.TreeSet;

/** The face is the document's, the constants too, and nothing else is to be seen. */
final class FaceTest {
    private static final String[] METHODS = {
        "int back()", "int before()", "int commit()", "int count(int)", "int cut(int)", "long get()", "int halt()",
        "int node(int,int)", "int nth(int)", "int octet(int,int)", "int poke(int,int,int)", "int power(int,int)",
        "int put(long)", "int remove()", "int start()", "int tapeAt(int)", "int type(long,int)", "int with()"
    };

    public static void main(String[] args) {
        Checks.due("NONE", RadixPages.NONE, -1);
        Checks.due("FULL", RadixPages.FULL, -2);
        Checks.due("LOST", RadixPages.LOST, -3);
        Checks.due("DOWN", RadixPages.DOWN, -4);
        Checks.due("NO", RadixPages.NO, Long.MIN_VALUE);
        methods();
        fieldsAndConstructors();
        Checks.end();
    }

    private static void methods() {
        TreeSet<String> want = new TreeSet<>();
        for (String method : METHODS) {
            want.add(method);
        }
        TreeSet<String> names = new TreeSet<>();
        TreeSet<String> got = new TreeSet<>();
        for (Method method : RadixPages.class.getDeclaredMethods()) {
            if (Modifier.isPrivate(method.getModifiers())) {
                continue;
            }
            Checks.due(method + " is public", Modifier.isPublic(method.getModifiers()) ? 1 : 0, 1);
            names.add(method.getName());
            StringBuilder text = new StringBuilder(method.getReturnType() + " " + method.getName() + "(");
            for (Class<?> type : method.getParameterTypes()) {
                text.append(text.charAt(text.length() - 1) == '(' ? "" : ",").append(type);
            }
            got.add(text.append(")").toString());
        }
        Checks.due("the methods " + got + " are " + want, got.equals(want) ? 1 : 0, 1);
        for (Method method : RadixPages.class.getDeclaredMethods()) {
            if (Modifier.isPrivate(method.getModifiers())) {
                Checks.due(method + " bears a public name", names.contains(method.getName()) ? 1 : 0, 0);
            }
        }
    }

    private static void fieldsAndConstructors() {
        int seen = 0;
        for (Field field : RadixPages.class.getDeclaredFields()) {
            seen += Modifier.isPrivate(field.getModifiers()) ? 0 : 1;
        }
        Checks.due("fields to be seen", seen, 5);
        Constructor<?>[] made = RadixPages.class.getDeclaredConstructors();
        Checks.due("constructors", made.length, 1);
        Checks.due("parameters of the constructor", made[0].getParameterCount(), 0);
        Checks.due("the class is public and final", RadixPages.class.getModifiers(), Modifier.PUBLIC | Modifier.FINAL);
    }
}
