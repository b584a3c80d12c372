import java.util.ArrayList;
import java.util.Arrays;
import java.util.HashSet;
import java.util.List;
import java.util.Set;

/** A text, read by descent through its grammar. */
final class ModelText {
    private static final Set<String> WORDS = new HashSet<>(Arrays.asList("hours", "dial", "goer", "comes", "stays",
        "worth", "dims", "seed", "if", "then", "else", "night", "out", "slip", "from", "long", "met", "which", "day",
        "goers"));
    private static final List<String> VARS = Arrays.asList("night", "out", "slip", "from", "long", "met", "which", "day",
        "goers");
    private static final List<String> LAWS = Arrays.asList("comes", "stays", "worth", "dims");

    int hours = 12;
    final List<int[]> dials = new ArrayList<>();
    final List<int[]> goers = new ArrayList<>();
    final Law[] laws = {new Law(v -> 1), new Law(v -> v[4]), new Law(v -> 1), new Law(v -> 0)};
    int seed = 0;

    private final List<Token> tokens = new ArrayList<>();
    private final List<int[]> sense = new ArrayList<>();
    private final List<String> dialNames = new ArrayList<>();
    private final List<String> goerNames = new ArrayList<>();
    private int next = 0;

    /** A part of a law. */
    interface Part {
        int of(int[] vars) throws ByZero;
    }

    /** Something looked at is divided by 0. */
    static final class ByZero extends Exception {
        private static final long serialVersionUID = 1;
    }

    /** A fault of form, at a place. */
    static final class Fault extends Exception {
        private static final long serialVersionUID = 1;
        final int number;
        final int place;

        Fault(int number, int place) {
            this.number = number;
            this.place = place;
        }
    }

    /** A whole law. */
    static final class Law {
        private final Part part;

        Law(Part part) {
            this.part = part;
        }

        int of(int[] vars) {
            try {
                return part.of(vars);
            } catch (ByZero e) {
                return 0;
            }
        }
    }

    /** What is cut from a text: "" is its end, null no token. */
    static final class Token {
        final String text;
        final int place;

        Token(String text, int place) {
            this.text = text;
            this.place = place;
        }
    }

    /** Null, or the number and the place of the fault. */
    int[] readAll(String s) {
        cut(s);
        try {
            while (!peek("")) {
                readTell();
            }
        } catch (Fault f) {
            return new int[] {f.number, f.place};
        }
        return sense.isEmpty() ? null : sense.get(0);
    }

    private void cut(String s) {
        int i = 0;
        while (i < s.length()) {
            char c = s.charAt(i);
            if (c == 9 || c == 10 || c == 13 || c == 32) {
                i++;
                continue;
            }
            String rest = s.substring(i);
            String run = rest.replaceFirst("(?s)^([a-z]+|[0-9]+|[;=+\\-*/<()]|).*$", "$1");
            boolean token = run.matches("[a-z]{1,8}|[0-9]{1,4}|[;=+\\-*/<()]");
            tokens.add(new Token(token ? run : null, i));
            i += Math.max(1, run.length());
        }
        tokens.add(new Token("", s.length()));
    }

    private Token token() {
        return tokens.get(Math.min(next, tokens.size() - 1));
    }

    private boolean peek(String text) {
        return text.equals(token().text);
    }

    private boolean isInt() {
        return token().text != null && token().text.matches("[0-9]+");
    }

    private boolean isName() {
        return token().text != null && token().text.matches("[a-z]+") && !WORDS.contains(token().text);
    }

    private Fault fault(int number) {
        return new Fault(number, token().place);
    }

    private String take(boolean fits) throws Fault {
        if (!fits) {
            throw fault(1);
        }
        if (next == 400) {
            throw fault(2);
        }
        return tokens.get(next++).text;
    }

    private void take(String text) throws Fault {
        take(peek(text));
    }

    private int takeInt(int least, int most) throws Fault {
        int place = token().place;
        int value = Integer.parseInt(take(isInt()));
        if (value < least || value > most) {
            sense.add(new int[] {5, place});
        }
        return value;
    }

    private String takeNewName() throws Fault {
        int place = token().place;
        String name = take(isName());
        if (dialNames.contains(name) || goerNames.contains(name)) {
            sense.add(new int[] {3, place});
        }
        return name;
    }

    private void readTell() throws Fault {
        Token first = token();
        if (peek("hours")) {
            take("hours");
            hours = takeInt(2, 24);
        } else if (peek("seed")) {
            take("seed");
            seed = takeInt(0, 9999);
        } else if (peek("dial")) {
            if (dials.size() == 4) {
                throw new Fault(2, first.place);
            }
            take("dial");
            String name = takeNewName();
            dials.add(new int[] {takeInt(0, 23), takeInt(0, 23)});
            dialNames.add(name);
        } else if (peek("goer")) {
            if (goers.size() == 5) {
                throw new Fault(2, first.place);
            }
            take("goer");
            String name = takeNewName();
            int place = token().place;
            int dial = dialNames.indexOf(take(isName()));
            if (dial < 0) {
                sense.add(new int[] {4, place});
            }
            goers.add(new int[] {dial, takeInt(0, 23), takeInt(1, 24)});
            goerNames.add(name);
        } else {
            int law = LAWS.indexOf(first.text);
            take(law >= 0);
            take("=");
            laws[law] = new Law(readLaw(0));
        }
        take(";");
    }

    private Part readLaw(int ifs) throws Fault {
        if (!peek("if")) {
            return readE(0);
        }
        if (ifs == 4) {
            throw fault(2);
        }
        take("if");
        Part left = readE(0);
        take("<");
        Part right = readE(0);
        take("then");
        Part yes = readE(0);
        take("else");
        Part no = readLaw(ifs + 1);
        return v -> left.of(v) < right.of(v) ? yes.of(v) : no.of(v);
    }

    private Part readE(int depth) throws Fault {
        Part sum = readPart(depth);
        while (peek("+") || peek("-")) {
            String sign = take(true);
            Part left = sum;
            Part right = readPart(depth);
            sum = sign.equals("+") ? v -> left.of(v) + right.of(v) : v -> left.of(v) - right.of(v);
        }
        return sum;
    }

    private Part readPart(int depth) throws Fault {
        Part product = readUnit(depth);
        while (peek("*") || peek("/")) {
            String sign = take(true);
            Part left = product;
            Part right = readUnit(depth);
            product = sign.equals("*") ? v -> left.of(v) * right.of(v) : v -> divided(left.of(v), right.of(v));
        }
        return product;
    }

    private static int divided(int left, int right) throws ByZero {
        if (right == 0) {
            throw new ByZero();
        }
        return (int) ((long) left / right);
    }

    private Part readUnit(int depth) throws Fault {
        if (peek("(")) {
            if (depth == 6) {
                throw fault(2);
            }
            take("(");
            Part inner = readE(depth + 1);
            take(")");
            return inner;
        }
        if (isInt()) {
            int value = Integer.parseInt(take(true));
            return v -> value;
        }
        int var = VARS.indexOf(token().text);
        take(var >= 0);
        return v -> v[var];
    }
}
