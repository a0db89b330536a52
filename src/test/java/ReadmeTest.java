import java.lang.reflect.Method;
import java.nio.file.Files;
import java.nio.file.Path;
import java.util.regex.Matcher;
import java.util.regex.Pattern;

/** The rows of README.md that call the class answer what stands behind them; run from the project's root. */
public final class ReadmeTest {
    private static final Pattern CALL = Pattern.compile("f\\.(\\w+)\\(([^)]*)\\);\\s*// (-?\\d+|true|false)\\b.*");
    private static final int FEWEST = 30;
    private static int wrong = 0;

    private ReadmeTest() {
    }

    public static void main(String[] args) throws ReflectiveOperationException, java.io.IOException {
        FogIsland f = new FogIsland();
        int calls = 0;
        for (String row : Files.readAllLines(Path.of("README.md"))) {
            Matcher m = CALL.matcher(row);
            if (m.matches()) {
                calls++;
                see(row, answer(f, m.group(1), m.group(2)), m.group(3));
            } else if (row.startsWith("f.")) {
                see(row, "nothing that can be read", "its answer");
            }
        }
        if (calls < FEWEST) {
            see("the whole page", calls + " calls", "at least " + FEWEST);
        }
        System.out.println(calls + " rows of README.md, " + wrong + " not as they say");
        if (wrong != 0) {
            System.exit(1);
        }
    }

    private static void see(String row, String got, String want) {
        if (!got.equals(want)) {
            wrong++;
            System.out.println("README: " + row + " - told is " + got + ", due is " + want);
        }
    }

    private static String answer(FogIsland f, String name, String list) throws ReflectiveOperationException {
        String[] words = list.isEmpty() ? new String[0] : list.split(", ");
        Object[] numbers = new Object[words.length];
        for (int i = 0; i < words.length; i++) {
            numbers[i] = words[i].equals("FogIsland.NONE") ? FogIsland.NONE : (int) (long) Long.decode(words[i]);
        }
        for (Method m : FogIsland.class.getMethods()) {
            if (m.getName().equals(name) && m.getParameterCount() == numbers.length) {
                return String.valueOf(m.invoke(f, numbers));
            }
        }
        return "no such call";
    }
}
