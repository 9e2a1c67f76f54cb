import java.io.IOException;
import java.lang.reflect.InvocationTargetException;
import java.lang.reflect.Method;
import java.nio.file.Files;
import java.nio.file.Path;
import java.util.regex.Matcher;
import java.util.regex.Pattern;

/** README.md tells calls with what they answer; a reader may rely on each of them. */
public final class ReadmeTest {
    private static final Pattern CALL =
        Pattern.compile("^x\\.(\\w+)\\(([^)]*)\\);\\s*//\\s*(-?\\w+)", Pattern.MULTILINE);

    public static void main(String[] args) throws Exception {
        PlainPacks x = new PlainPacks();
        Matcher told = CALL.matcher(text());
        int calls = 0;
        while (told.find()) {
            String call = told.group(1) + "(" + told.group(2) + ")";
            String got = answer(x, told.group(1), told.group(2));
            Check.due(call + " answers " + got + ", told is " + told.group(3),
                got.equals(told.group(3)) ? 1 : 0, 1);
            calls++;
        }
        Check.due("calls that README.md tells", calls, 16);
        Check.finish("ReadmeTest");
    }

    private static String text() throws IOException {
        return Files.readString(Path.of("README.md"));
    }

    private static String answer(PlainPacks x, String name, String written) throws Exception {
        String[] parts = written.isEmpty() ? new String[0] : written.split(",\\s*");
        Object[] given = new Object[parts.length];
        for (int i = 0; i < parts.length; i++) {
            given[i] = (int) Long.decode(parts[i]).longValue();
        }
        for (Method m : PlainPacks.class.getMethods()) {
            if (m.getName().equals(name) && m.getParameterCount() == given.length) {
                return answer(x, m, given);
            }
        }
        return "no such call";
    }

    private static String answer(PlainPacks x, Method m, Object[] given) throws Exception {
        try {
            Object got = m.invoke(x, given);
            return got == null ? "void" : got.toString();
        } catch (InvocationTargetException e) {
            return e.getCause().getClass().getSimpleName();
        }
    }
}
