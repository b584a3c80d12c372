import java.lang.reflect.Constructor;
import java.lang.reflect.Field;
import java.lang.reflect.Method;
import java.lang.reflect.Modifier;
import java.nio.file.Files;
import java.nio.file.Path;
import java.util.Arrays;
import java.util.HashSet;
import java.util.Set;
import java.util.TreeSet;
import java.util.regex.Matcher;
import java.util.regex.Pattern;

/** The face of the class, and what of LANGUAGE.md can be seen in the class and its source. */
public final class RulesTest {
    private static final Due DUE = new Due("RulesTest");
    private static final String[] FACE = {"int feed(int, int, int, int, int)", "int back(int)", "int read()",
        "int place()", "int dial(int, int)", "int shows(int, int)", "int goer(int, int)", "int together(int, int)",
        "int there(int)", "int turn(int, int)", "boolean follow(int, int)", "boolean slip(int, int)", "int nights(int)",
        "boolean undo()", "int meet(int, int)", "int often(int, int, int)", "int alone(int, int)", "int earns(int, int)",
        "int right(int)", "int agree(int, int)", "int round()", "int turns(int, int, int)", "int parts(int, int, int)",
        "int knot(int, int, int, int)", "int mend(int, int, int)", "int sooner(int)", "int strangers(int)",
        "int by(int, int, int, int)", "int peace(int, int)", "int favourite(int, int)", "int longest(int, int, int)",
        "int couples(int, int)", "int fullest(int)", "int game(int, int, int)", "int metIn(int, int)",
        "int outIn(int, int)", "int year(int, int, int, int)", "int tell(int, int, boolean)", "int forget()",
        "int fits(int, int, int)", "int look(int, int, int)", "boolean hold(int)", "boolean restore(int)",
        "int count(int)"};
    private static final Set<String> LIBRARY = new HashSet<>(Arrays.asList("Math.max", "Math.min",
        "Integer.bitCount", "System.arraycopy"));

    private RulesTest() {
    }

    public static void main(String[] args) throws Exception {
        face();
        classes();
        source();
        DUE.end();
    }

    private static void face() throws Exception {
        Set<String> due = new TreeSet<>(Arrays.asList(FACE));
        Set<String> got = new TreeSet<>();
        for (Method m : MoonDials.class.getDeclaredMethods()) {
            if (Modifier.isPublic(m.getModifiers())) {
                got.add(signature(m));
                DUE.isTrue("not static: " + m, !Modifier.isStatic(m.getModifiers()));
            } else {
                DUE.isTrue("private: " + m, Modifier.isPrivate(m.getModifiers()));
            }
        }
        DUE.isTrue("the face is " + got, got.equals(due));
        DUE.isTrue("public and final", Modifier.isPublic(MoonDials.class.getModifiers())
            && Modifier.isFinal(MoonDials.class.getModifiers()));
        Constructor<?>[] made = MoonDials.class.getDeclaredConstructors();
        DUE.isTrue("one constructor", made.length == 1 && made[0].getParameterCount() == 0
            && Modifier.isPublic(made[0].getModifiers()));
        for (Field f : MoonDials.class.getDeclaredFields()) {
            DUE.isTrue("field " + f, f.getName().equals("NONE") == Modifier.isPublic(f.getModifiers())
                && (Modifier.isPublic(f.getModifiers()) || Modifier.isPrivate(f.getModifiers())));
        }
    }

    private static String signature(Method m) {
        StringBuilder text = new StringBuilder(m.getReturnType() + " " + m.getName() + "(");
        for (int i = 0; i < m.getParameterCount(); i++) {
            text.append(i > 0 ? ", " : "").append(m.getParameterTypes()[i]);
        }
        return text.append(")").toString();
    }

    private static void classes() {
        Set<String> names = new HashSet<>();
        for (Method m : MoonDials.class.getMethods()) {
            names.add(m.getName());
        }
        Class<?>[] inside = MoonDials.class.getDeclaredClasses();
        DUE.isTrue("twelve classes at most", inside.length + 1 <= 12);
        for (Class<?> c : inside) {
            DUE.isTrue("static: " + c, Modifier.isStatic(c.getModifiers()) && !Modifier.isPublic(c.getModifiers()));
            members(c);
            for (Method m : c.getDeclaredMethods()) {
                DUE.isTrue("no name of the face: " + m, !names.contains(m.getName()));
            }
        }
        members(MoonDials.class);
        for (Method m : MoonDials.class.getDeclaredMethods()) {
            DUE.isTrue("no name of the face: " + m,
                Modifier.isPublic(m.getModifiers()) || !names.contains(m.getName()));
        }
    }

    private static void members(Class<?> c) {
        int fields = 0;
        for (Field f : c.getDeclaredFields()) {
            if (Modifier.isStatic(f.getModifiers())) {
                DUE.isTrue("final: " + f, Modifier.isFinal(f.getModifiers()));
                DUE.isTrue("a constant: " + f, f.getType().isPrimitive() || f.getType() == String.class);
            } else {
                fields++;
            }
        }
        DUE.isTrue("twenty fields at most: " + c, fields <= 20);
        for (Method m : c.getDeclaredMethods()) {
            DUE.isTrue("seven parameters at most: " + m, m.getParameterCount() <= 7);
        }
    }

    private static void source() throws Exception {
        String text = Files.readString(Path.of("src/main/java/MoonDials.java"));
        for (int i = 0; i < text.length(); i++) {
            char c = text.charAt(i);
            DUE.isTrue("a sign of 1 to 127 at " + i, c > 0 && c < 128);
        }
        String code = text.replaceAll("(?s)/\\*.*?\\*/", "").replaceAll("//[^\n]*", "");
        String bare = code.replaceAll("\"(\\\\.|[^\"\\\\])*\"", "\"\"");
        for (String word : "throw throws try catch finally synchronized assert import package instanceof enum record double "
            .concat("float Object Class Thread volatile transient native strictfp var yield").split(" ")) {
            DUE.isTrue("no " + word, !Pattern.compile("\\b" + word + "\\b").matcher(bare).find());
        }
        for (String sign : new String[] {"->", "::", "@", "\" +", "+ \""}) {
            DUE.isTrue("no " + sign, !bare.contains(sign));
        }
        Matcher calls = Pattern.compile("\\b(Math|Integer|Long|System|Arrays|String)\\.\\w+").matcher(bare);
        while (calls.find()) {
            DUE.isTrue("of the library: " + calls.group(), LIBRARY.contains(calls.group()));
        }
        methodLengths(text);
    }

    private static void methodLengths(String text) {
        String[] lines = text.split("\n");
        Pattern head = Pattern.compile("^( {4}| {8})[\\w<].*\\) \\{$");
        for (int i = 0; i < lines.length; i++) {
            Matcher m = head.matcher(lines[i]);
            if (m.matches()) {
                int end = i;
                while (!lines[end].equals(m.group(1) + "}")) {
                    end++;
                }
                DUE.isTrue("sixty lines at most: " + lines[i], end - i < 60);
            }
        }
    }
}
