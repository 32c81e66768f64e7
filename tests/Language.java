import java.io.IOException;
import java.lang.reflect.Constructor;
import java.lang.reflect.Field;
import java.lang.reflect.Method;
import java.lang.reflect.Modifier;
import java.nio.file.Files;
import java.nio.file.Path;
import java.util.ArrayList;
import java.util.Arrays;
import java.util.List;
import java.util.TreeSet;
import java.util.regex.Matcher;
import java.util.regex.Pattern;

/** The face of the class, and those rules of LANGUAGE.md that can be seen without understanding the program. */
public final class Language {
    private static final Path SOURCE = Path.of("src/main/java/RentBoard.java");
    private static final String FACE =
        "int sign(int);boolean end(int);int pieces();int rule();int piece(int,int)!;int square(int)!;int rent(int,int)!;"
        + "int sheet(int,int,int,int);int moves(int,int);int quarters(int);int passes();int gives(int,int,int);"
        + "int wages(int,int);int game();int undo();int goes(int);int threats(int);int hops(int,int);"
        + "int ways(int,int,int);int owes(int);int later(int,int);int when(int);int needs(int,int);int cheapest(int);"
        + "int wanders(int,int);int stays(int,int);int best();int looks(int);int choices();int heard(int,int);"
        + "int forget();int fits();int asks();int saw(int,int);int denies();int laws();int sees();"
        + "int odds(int,int,int);int knights(int,int);int rests(int);int law();int years(int,int);boolean keep(int);"
        + "boolean again(int);int count(int);long row(int)!";

    /** What the interface says ahead of its calls, and the calls. */
    private static final String[] HEADINGS = {
        "pieces: sign end pieces rule piece square rent sheet",
        "moves, quarter days: moves quarters passes gives wages game undo",
        "where one can go: goes threats hops ways",
        "rents: owes later when needs cheapest wanders stays",
        "what pays best (WORTH of a SIDE: PURSES of its PIECES together, less those of the other SIDE's): best looks choices",
        "which piece it was: heard forget fits asks",
        "laws of rent (a 0 .. 6, b 0 .. 6: a for each that d is less than 2, and b): saw denies laws sees",
        "chances, a knight: odds knights",
        "rests, rules, years: rests law years",
        "kept: keep again count row"};

    private static int wrong;

    public static void main(String[] args) throws IOException {
        face();
        members();
        source();
        headings();
        System.out.println(wrong == 0 ? "the face and the language are kept" : wrong + " faults of face or language");
        if (wrong != 0) {
            System.exit(1);
        }
    }

    private static void fault(boolean is, String what) {
        if (is) {
            wrong++;
            System.out.println(what);
        }
    }

    private static void face() {
        TreeSet<String> want = new TreeSet<>(Arrays.asList(FACE.split(";")));
        TreeSet<String> got = new TreeSet<>();
        for (Method method : RentBoard.class.getDeclaredMethods()) {
            if (Modifier.isPublic(method.getModifiers())) {
                List<String> types = new ArrayList<>();
                for (Class<?> type : method.getParameterTypes()) {
                    types.add(type.getSimpleName());
                }
                boolean throwing = Arrays.asList(method.getExceptionTypes()).contains(java.util.NoSuchElementException.class);
                got.add(method.getReturnType() + " " + method.getName() + "(" + String.join(",", types) + ")" + (throwing ? "!" : ""));
            }
        }
        fault(!want.equals(got), "the face is " + got);
        fault(!Modifier.isFinal(RentBoard.class.getModifiers()), "the class is not final");
        fault(RentBoard.class.getConstructors().length != 1, "not one public constructor");
    }

    private static void members() {
        TreeSet<String> publicNames = new TreeSet<>();
        for (Method method : RentBoard.class.getMethods()) {
            publicNames.add(method.getName());
        }
        Class<?>[] inside = RentBoard.class.getDeclaredClasses();
        fault(inside.length + 1 > 12, "more than twelve classes");
        List<Class<?>> all = new ArrayList<>(Arrays.asList(inside));
        all.add(RentBoard.class);
        for (Class<?> one : all) {
            boolean outer = one == RentBoard.class;
            fault(!outer && !Modifier.isStatic(one.getModifiers()), one + " is not static");
            int fields = 0;
            for (Field field : one.getDeclaredFields()) {
                int is = field.getModifiers();
                fields += Modifier.isStatic(is) ? 0 : 1;
                fault(Modifier.isStatic(is) && !Modifier.isFinal(is), field + " is static and not final");
                fault(outer && !Modifier.isPrivate(is) && !field.getName().equals("NONE"), field + " is not private");
            }
            fault(fields > 20, one + " has " + fields + " fields");
            for (Method method : one.getDeclaredMethods()) {
                boolean open = Modifier.isPublic(method.getModifiers());
                fault(method.getParameterCount() > 7, method + " takes too many parameters");
                fault(outer && !open && !Modifier.isPrivate(method.getModifiers()), method + " is not private");
                fault(!open && publicNames.contains(method.getName()), method + " bears the name of a public one");
            }
            for (Constructor<?> constructor : one.getDeclaredConstructors()) {
                fault(constructor.getParameterCount() > 7, constructor + " takes too many parameters");
            }
        }
    }

    private static void source() throws IOException {
        String text = Files.readString(SOURCE);
        String code = text.replaceAll("(?s)/\\*.*?\\*/", "").replaceAll("//[^\n]*", "").replaceAll("\"[^\"]*\"", "\"\"");
        for (char c : text.toCharArray()) {
            fault(c > 126 || c < 32 && c != '\n', "a sign that is not plain: " + (int) c);
        }
        String[] barred = {"catch", "finally", "synchronized", "assert", "volatile", "native", "transient", "package", "yield",
            "->", "::", "Exact", "Object", "hashCode", "getClass", "System.out", "System.nano", "System.current", "Random",
            "Thread", "static \\{", "@", "\"\" *\\+", "\\+ *\"\"", "String.format", "HashMap"};
        for (String one : barred) {
            fault(Pattern.compile(one).matcher(code).find(), "the source holds " + one);
        }
        for (String line : code.split("\n")) {
            fault(line.startsWith("import ") && !line.matches("import java\\.util\\.(Arrays|ArrayList|List|NoSuchElementException);"), line);
            fault(line.length() > 125, "a long line: " + line);
        }
        Matcher thrown = Pattern.compile("throw ").matcher(code);
        while (thrown.find()) {
            fault(!code.startsWith("throw new NoSuchElementException(", thrown.start()), "it throws another exception");
        }
        lengths(code);
    }

    /** Headings of which no call of the face comes ahead of the next one are the program's own. */
    private static void headings() throws IOException {
        List<String> got = new ArrayList<>();
        String heading = "";
        StringBuilder calls = new StringBuilder();
        for (String line : (Files.readString(SOURCE) + "\n    // ---- \n").split("\n")) {
            Matcher call = Pattern.compile(" {4}public \\w+ (\\w+)\\(.*").matcher(line);
            if (call.matches()) {
                calls.append(' ').append(call.group(1));
            } else if (line.startsWith("    // ----")) {
                if (calls.length() > 0) {
                    got.add(heading + ":" + calls);
                }
                heading = line.substring("    // ----".length()).trim();
                calls.setLength(0);
            }
        }
        fault(!got.equals(Arrays.asList(HEADINGS)), "the headings and the calls behind them are " + got);
    }

    /** Methods stay under some sixty lines. */
    private static void lengths(String code) {
        String[] lines = code.split("\n");
        int start = 0;
        for (int i = 0; i < lines.length; i++) {
            if (lines[i].matches(" {4,8}[a-zA-Z][^=;]*\\)( throws \\w+)? \\{")) {
                start = i;
            }
            if (lines[i].matches(" {4}\\}| {8}\\}")) {
                fault(i - start > 60 && lines[start].contains("("), "a long method: " + lines[start]);
                start = i;
            }
        }
    }
}
