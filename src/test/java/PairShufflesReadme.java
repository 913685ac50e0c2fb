import java.io.IOException;
import java.lang.reflect.Method;
import java.nio.file.Files;
import java.nio.file.Path;
import java.util.Arrays;
import java.util.regex.Matcher;
import java.util.regex.Pattern;

/** The examples of README.md, one behind another on one object, answer what their comments begin with. */
public final class PairShufflesReadme {
    private static final Pattern EXAMPLE = Pattern.compile("x\\.(\\w+)\\(([^;]*|';')\\); +// (-?\\d+)\\b.*");
    private static final int FEWEST = 20;

    private static int argument(String written) {
        return written.startsWith("'") ? written.charAt(1) : Integer.parseInt(written);
    }

    private static int answer(PairShuffles x, String name, String written) throws ReflectiveOperationException {
        Object[] arguments = written.isEmpty() ? new Object[0]
                : Arrays.stream(written.split(", ")).map(PairShufflesReadme::argument).toArray();
        Class<?>[] types = new Class<?>[arguments.length];
        Arrays.fill(types, int.class);
        Method method = PairShuffles.class.getMethod(name, types);
        return (int) method.invoke(x, arguments);
    }

    public static void main(String[] args) throws IOException, ReflectiveOperationException {
        PairShuffles x = new PairShuffles();
        int examples = 0;
        int wrong = 0;
        for (String line : Files.readAllLines(Path.of("README.md"))) {
            if (!line.startsWith("x.")) {
                continue;
            }
            Matcher example = EXAMPLE.matcher(line);
            if (!example.matches()) {
                wrong++;
                System.out.println("not of the form of an example: " + line);
                continue;
            }
            examples++;
            int got = answer(x, example.group(1), example.group(2));
            if (got != Integer.parseInt(example.group(3))) {
                wrong++;
                System.out.println("answered " + got + ": " + line);
            }
        }
        if (examples < FEWEST) {
            wrong++;
            System.out.println("README.md has too few examples: " + examples);
        }
        System.out.println(wrong == 0 ? examples + " examples of README.md answer as they say"
                : wrong + " examples of README.md are wrong");
        if (wrong != 0) {
            System.exit(1);
        }
    }
}
