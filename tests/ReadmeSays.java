import java.io.IOException;
import java.lang.reflect.InvocationTargetException;
import java.lang.reflect.Method;
import java.nio.file.Files;
import java.nio.file.Path;
import java.util.regex.Matcher;
import java.util.regex.Pattern;

/** The calls of README.md, one behind another, each with the answer that README.md says behind it. */
public final class ReadmeSays {
    private static final Path README = Path.of("README.md");
    private static final String NEW_OBJECT = "RentBoard board = new RentBoard();";
    private static final Pattern CALL =
        Pattern.compile("board\\.(\\w+)\\(([^)]*)\\); *// (-?\\d+|true|false|NoSuchElementException)(: .*)?");
    /** So many calls stand there: none is left out because it is written otherwise. */
    private static final int CALLS = 34;

    private static RentBoard board;
    private static int calls;
    private static int wrong;

    public static void main(String[] args) throws IOException, ReflectiveOperationException {
        boolean inCode = false;
        for (String line : Files.readAllLines(README)) {
            if (line.startsWith("```")) {
                inCode = line.equals("```java");
            } else if (inCode) {
                run(line);
            }
        }
        fault(calls != CALLS, "README.md has " + calls + " calls");
        System.out.println(wrong == 0 ? "README.md says what the class does" : wrong + " faults of README.md");
        if (wrong != 0) {
            System.exit(1);
        }
    }

    private static void fault(boolean is, String what) {
        if (is) {
            wrong++;
            System.out.println(what);
        }
    }

    private static void run(String line) throws ReflectiveOperationException {
        Matcher call = CALL.matcher(line);
        if (line.equals(NEW_OBJECT)) {
            board = new RentBoard();
        } else if (board == null || !call.matches()) {
            fault(true, "no call that can be run: " + line);
        } else {
            calls++;
            String got = answer(call.group(1), call.group(2));
            fault(!got.equals(call.group(3)), line + " .. answered " + got);
        }
    }

    private static String answer(String name, String arguments) throws ReflectiveOperationException {
        String[] told = arguments.isEmpty() ? new String[0] : arguments.split(", ");
        Class<?>[] types = new Class<?>[told.length];
        Object[] values = new Object[told.length];
        for (int i = 0; i < told.length; i++) {
            types[i] = int.class;
            values[i] = Integer.decode(told[i]);
        }
        Method method = RentBoard.class.getMethod(name, types);
        try {
            return String.valueOf(method.invoke(board, values));
        } catch (InvocationTargetException e) {
            return e.getCause().getClass().getSimpleName();
        }
    }
}
