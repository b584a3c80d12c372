import java.lang.reflect.Method;
import java.lang.reflect.Modifier;
import java.nio.file.Files;
import java.nio.file.Path;
import java.util.regex.Matcher;
import java.util.regex.Pattern;

/** README.md holds: each line of its examples answers as its comment says, and it names every call. */
public final class ReadmeTest {
    private static final Due DUE = new Due("ReadmeTest");
    private static final Pattern BLOCK = Pattern.compile("(?ms)^```(\\w+)\n(.*?)^```$");
    private static final Pattern ROW = Pattern.compile("x\\.(\\w+\\(.*\\));\\s+// (-?\\w+)(:.*)?");
    private static final Pattern CALL = Pattern.compile("`(\\w+)\\(([^)`]*)\\)`");

    private ReadmeTest() {
    }

    public static void main(String[] args) throws Exception {
        String page = Files.readString(Path.of("README.md"));
        examples(page);
        calls(page);
        DUE.end();
    }

    private static void examples(String page) {
        String text = "";
        int found = 0;
        Matcher blocks = BLOCK.matcher(page);
        while (blocks.find()) {
            if (blocks.group(1).equals("text")) {
                text = blocks.group(2);
            } else {
                example(blocks.group(2), text);
                found++;
            }
        }
        DUE.isTrue("it has examples", found >= 2);
    }

    private static void example(String lines, String text) {
        MoonDials x = null;
        for (String line : lines.split("\n")) {
            Matcher row = ROW.matcher(line);
            if (line.equals("MoonDials x = new MoonDials();")) {
                x = new MoonDials();
            } else if (line.matches("Texts\\.read\\(x, text\\);\\s+// 0")) {
                DUE.is(line, Texts.read(x, text), 0);
            } else if (row.matches()) {
                DUE.is(line, new Call(row.group(1)).on(x), Call.number(row.group(2)));
            } else {
                DUE.isTrue("a line that can be tested: " + line, false);
            }
        }
    }

    private static void calls(String page) {
        for (Method m : MoonDials.class.getDeclaredMethods()) {
            boolean isNamed = !Modifier.isPublic(m.getModifiers());
            Matcher call = CALL.matcher(page);
            while (call.find()) {
                int size = call.group(2).isEmpty() ? 0 : call.group(2).split(",").length;
                isNamed = isNamed || call.group(1).equals(m.getName()) && size == m.getParameterCount();
            }
            DUE.isTrue("README.md names " + m, isNamed);
        }
    }
}
