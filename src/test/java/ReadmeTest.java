import java.lang.reflect.Method;
import java.nio.file.Files;
import java.nio.file.Path;
import java.util.regex.Matcher;
import java.util.regex.Pattern;

/** The calls that README.md shows answer what it says beside them. */
public final class ReadmeTest {
    private static final Pattern CALL = Pattern.compile("x\\.(\\w+)\\(([^)]*)\\);\\s+// (-?\\d+).*");
    private static final Pattern TEXT_END = Pattern.compile(".*\\);\\s+// (-?\\d+).*");

    private BirdCodes x = new BirdCodes();
    private String text = "";
    private int calls;

    public static void main(String[] args) throws Exception {
        ReadmeTest all = new ReadmeTest();
        for (String line : Files.readAllLines(Path.of("README.md"))) {
            all.read(line.trim());
        }
        Check.yes("README.md shows calls", all.calls >= 25);
        Check.end("ReadmeTest");
    }

    private void read(String line) throws ReflectiveOperationException {
        Matcher call = CALL.matcher(line);
        if (line.equals("BirdCodes x = new BirdCodes();")) {
            x = new BirdCodes();
        } else if (line.startsWith("tell(x, ") || line.startsWith("+ \"")) {
            readText(line);
        } else if (call.matches()) {
            Check.same(line, answer(call.group(1), call.group(2)), Integer.parseInt(call.group(3)));
            calls++;
        } else {
            Check.yes("a call without an answer: " + line, !line.matches("x\\.\\w+\\(.*\\);\\s.*"));
        }
    }

    private void readText(String line) {
        text += line.substring(line.indexOf('"') + 1, line.lastIndexOf('"'));
        Matcher end = TEXT_END.matcher(line);
        if (end.matches()) {
            Check.same(line, tell(x, text), Integer.parseInt(end.group(1)));
            text = "";
            calls++;
        }
    }

    private int answer(String name, String arguments) throws ReflectiveOperationException {
        String[] each = arguments.isEmpty() ? new String[0] : arguments.split(", ");
        Object[] numbers = new Object[each.length];
        for (int k = 0; k < each.length; k++) {
            numbers[k] = each[k].equals("BirdCodes.NONE") ? BirdCodes.NONE : Integer.parseInt(each[k]);
        }
        for (Method m : BirdCodes.class.getMethods()) {
            if (m.getName().equals(name) && m.getParameterCount() == numbers.length) {
                return (int) m.invoke(x, numbers);
            }
        }
        throw new NoSuchMethodException(name);
    }

    /** As README.md tells it. */
    private static int tell(BirdCodes x, String text) {
        for (int at = 0; at < text.length(); at += 20) {
            int[] fours = new int[5];
            for (int k = 0; k < 20; k++) {
                int sign = at + k < text.length() ? text.charAt(at + k) : ' ';
                fours[k / 4] = fours[k / 4] << 8 | sign;
            }
            x.feed(fours[0], fours[1], fours[2], fours[3], fours[4]);
        }
        return x.text(text.length());
    }
}
