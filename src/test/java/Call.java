import java.lang.reflect.Method;
import java.util.Arrays;
import java.util.HashSet;
import java.util.Set;

/** A call told as a text, such as "turn(0, 7)"; its answer is a number (true 1, false 0). */
final class Call {
    private static final Set<String> CHANGING = new HashSet<>(Arrays.asList("feed", "back", "read", "turn", "follow",
        "slip", "nights", "undo", "tell", "forget", "hold", "restore"));
    private final String text;
    private final Method method;
    private final Object[] values;

    Call(String text) {
        this.text = text;
        int open = text.indexOf('(');
        String inside = text.substring(open + 1, text.length() - 1).trim();
        String[] words = inside.isEmpty() ? new String[0] : inside.split("\\s*,\\s*");
        Class<?>[] types = new Class<?>[words.length];
        values = new Object[words.length];
        for (int i = 0; i < words.length; i++) {
            boolean isBoolean = words[i].equals("true") || words[i].equals("false");
            types[i] = isBoolean ? boolean.class : int.class;
            values[i] = isBoolean ? (Object) words[i].equals("true") : (Object) (int) number(words[i]);
        }
        try {
            method = MoonDials.class.getDeclaredMethod(text.substring(0, open), types);
        } catch (NoSuchMethodException e) {
            throw new IllegalStateException("no such call: " + text, e);
        }
    }

    static long number(String word) {
        switch (word) {
            case "NONE":
                return -1;
            case "MIN":
                return Integer.MIN_VALUE;
            case "MAX":
                return Integer.MAX_VALUE;
            case "true":
                return 1;
            case "false":
                return 0;
            default:
                return Long.decode(word);
        }
    }

    long on(MoonDials x) {
        try {
            Object answer = method.invoke(x, values);
            return answer instanceof Boolean ? ((Boolean) answer ? 1 : 0) : (Integer) answer;
        } catch (ReflectiveOperationException e) {
            throw new IllegalStateException(text + " threw", e);
        }
    }

    /** Whether this call, answered so, leaves all that can be seen as it was. */
    boolean changesNothing(long answer) {
        if (!CHANGING.contains(method.getName())) {
            return true;
        }
        boolean isNoThing = text.equals("nights(0)") || text.equals("back(0)");
        boolean isRefused = method.getReturnType() == boolean.class ? answer == 0 : answer == -1;
        return isNoThing || isRefused;
    }

    @Override
    public String toString() {
        return text;
    }
}
