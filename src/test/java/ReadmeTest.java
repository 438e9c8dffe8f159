import java.io.IOException;
import java.lang.reflect.InvocationTargetException;
import java.lang.reflect.Method;
import java.lang.reflect.Modifier;
import java.nio.file.Files;
import java.nio.file.Path;
import java.util.Map;
import java.util.Set;
import java.util.TreeMap;
import java.util.TreeSet;
import java.util.regex.Matcher;
import java.util.regex.Pattern;

/** The calls that README.md shows answer what stands behind them; run from the project's directory. */
public final class ReadmeTest {
    private static final Pattern SHOWN =
            Pattern.compile("bench\\.(\\w+)\\(([^)]*)\\);\\s*// ([-\\w]+)(:.*)?");

    public static void main(String[] args) throws IOException, IllegalAccessException {
        Map<String, Method> face = face();
        Set<String> missing = new TreeSet<>(face.keySet());
        BlendBench bench = new BlendBench();
        int wrong = 0;
        for (String line : Files.readAllLines(Path.of("README.md"))) {
            if (!line.startsWith("bench.")) {
                continue;
            }
            Matcher shown = SHOWN.matcher(line);
            if (!shown.matches() || !face.containsKey(shown.group(1))) {
                System.out.println("not read: " + line);
                wrong++;
                continue;
            }
            missing.remove(shown.group(1));
            String got = answer(bench, face.get(shown.group(1)), shown.group(2));
            if (!got.equals(shown.group(3))) {
                System.out.println("answered " + got + ": " + line);
                wrong++;
            }
        }
        if (!missing.isEmpty()) {
            System.out.println("never shown: " + missing);
            wrong++;
        }
        if (wrong > 0) {
            System.exit(1);
        }
        System.out.println("README.md's calls answer as shown");
    }

    private static Map<String, Method> face() {
        Map<String, Method> face = new TreeMap<>();
        for (Method method : BlendBench.class.getDeclaredMethods()) {
            if (Modifier.isPublic(method.getModifiers())) {
                face.put(method.getName(), method);
            }
        }
        return face;
    }

    private static String answer(BlendBench bench, Method method, String arguments)
            throws IllegalAccessException {
        String[] written = arguments.split(", *");
        Object[] values = new Object[written.length];
        for (int k = 0; k < written.length; k++) {
            values[k] = number(written[k]);
        }
        try {
            return String.valueOf(method.invoke(bench, values));
        } catch (InvocationTargetException thrown) {
            return thrown.getCause().getClass().getSimpleName();
        }
    }

    private static int number(String written) {
        if (written.equals("BlendBench.NONE")) {
            return BlendBench.NONE;
        }
        return written.startsWith("0b")
                ? Integer.parseInt(written.substring(2), 2) : Long.decode(written).intValue();
    }
}
