import java.lang.reflect.Constructor;
import java.lang.reflect.Field;
import java.lang.reflect.Method;
import java.lang.reflect.Modifier;
import java.util.Set;
import java.util.TreeSet;

/** The class shows the document's face and nothing more. */
public final class FaceTest {
    private static final Set<String> DUE = new TreeSet<>(Set.of(
            "int feed(int,int,int,int,int)", "boolean end(int)", "int sheet(int,int,int)",
            "int lazy(int,int)", "int back(int,int)", "int melt(int,int)", "int octet(int)",
            "int about(int,int)", "int state(int,int,int)", "long chance(int,int,int,int,int)",
            "long apart(int,int,int,int,int)", "int when(int,int,int)", "long stay(int,int,int)",
            "long steps(int,int,int,int)", "long ahead(int,int,int,int,int)",
            "long narrow(int,int)", "int cut(int)", "int count(int)"));
    private static int wrong = 0;

    private static void due(String what, Object got, Object want) {
        if (!want.equals(got)) {
            wrong++;
            System.out.println(what + " is " + got + ", due is " + want);
        }
    }

    private static String written(Method m) {
        StringBuilder text = new StringBuilder(m.getReturnType() + " " + m.getName() + "(");
        for (Class<?> type : m.getParameterTypes()) {
            text.append(text.charAt(text.length() - 1) == '(' ? "" : ",").append(type);
        }
        return text.append(")").toString();
    }

    private static void methods() {
        Set<String> shown = new TreeSet<>();
        Set<String> names = new TreeSet<>();
        for (Method m : BlendBench.class.getDeclaredMethods()) {
            if (!Modifier.isPrivate(m.getModifiers())) {
                shown.add(written(m));
                names.add(m.getName());
            }
        }
        due("the face", shown, DUE);
        for (Method m : BlendBench.class.getDeclaredMethods()) {
            if (Modifier.isPrivate(m.getModifiers())) {
                due("a public name on private " + m.getName(), names.contains(m.getName()), false);
            }
        }
    }

    private static void fields() throws IllegalAccessException {
        for (Field f : BlendBench.class.getDeclaredFields()) {
            boolean none = f.getName().equals("NONE");
            due("privacy of " + f.getName(), Modifier.isPrivate(f.getModifiers()), !none);
            if (none) {
                due("modifiers of NONE", f.getModifiers(),
                        Modifier.PUBLIC | Modifier.STATIC | Modifier.FINAL);
                due("NONE", f.getInt(null), -1);
            }
        }
    }

    public static void main(String[] args) throws IllegalAccessException {
        methods();
        fields();
        due("modifiers", BlendBench.class.getModifiers(), Modifier.PUBLIC | Modifier.FINAL);
        Constructor<?>[] made = BlendBench.class.getDeclaredConstructors();
        due("constructors", made.length, 1);
        due("its parameters", made[0].getParameterCount(), 0);
        due("its modifiers", made[0].getModifiers(), Modifier.PUBLIC);
        System.out.println(wrong == 0 ? "the face is as due" : wrong + " things are not as due");
        if (wrong != 0) {
            System.exit(1);
        }
    }
}
