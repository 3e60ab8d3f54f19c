import java.io.IOException;
import java.nio.file.Files;
import java.nio.file.Path;
import java.util.regex.Matcher;
import java.util.regex.Pattern;

/** The example of README.md: every answer that is written behind a call is the one that is given. */
public final class ReadmeTest {
    private static final Pattern MAKING = Pattern.compile("\\s*PrettyStream text = new PrettyStream\\((\\d+)\\);.*");
    private static final Pattern CALL = Pattern.compile("\\s*text\\.(\\w+)\\((-?\\d*)\\);(\\s*// (-?\\d+).*)?");

    public static void main(String[] args) throws IOException, ReflectiveOperationException {
        PrettyStream text = null;
        int compared = 0;
        for (String line : Files.readAllLines(Path.of("README.md"))) {
            Matcher making = MAKING.matcher(line);
            Matcher call = CALL.matcher(line);
            if (making.matches()) {
                text = new PrettyStream(Integer.parseInt(making.group(1)));
            } else if (call.matches()) {
                Object answer = answer(text, call.group(1), call.group(2));
                if (call.group(4) != null) {
                    Checks.due(line.strip(), (Integer) answer, Integer.parseInt(call.group(4)));
                    compared++;
                }
            }
        }
        Checks.due("README.md has an example with answers", compared > 0 ? 1 : 0, 1);
        Checks.end();
    }

    private static Object answer(PrettyStream text, String name, String number)
            throws ReflectiveOperationException {
        if (number.isEmpty()) {
            return PrettyStream.class.getMethod(name).invoke(text);
        }
        return PrettyStream.class.getMethod(name, int.class).invoke(text, Integer.parseInt(number));
    }
}
