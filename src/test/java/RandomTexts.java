import java.util.ArrayList;
import java.util.Arrays;
import java.util.List;
import java.util.Random;

/** Texts by chance: most without a fault, some with one. */
final class RandomTexts {
    private static final String[] VARS = {"night", "out", "slip", "from", "long", "met", "which", "day", "goers"};
    private static final String[] LAWS = {"comes", "stays", "worth", "dims"};
    private static final String[] ODD = {"hours", "dial", "goer", "comes", "dims", "seed", "if", "then", "else", "night",
        "goers", "x", "abcdefgh", "abcdefghi", "0", "25", "9999", "10000", ";", "=", "+", "-", "*", "/", "<", "(", ")",
        ".", "A", ",", "\u00e9", "((((((("};
    private final Random random;

    RandomTexts(Random random) {
        this.random = random;
    }

    private int upTo(int most) {
        return random.nextInt(most + 1);
    }

    private boolean chance(int percent) {
        return random.nextInt(100) < percent;
    }

    String text() {
        List<String> words = new ArrayList<>();
        for (String tell : tells()) {
            words.addAll(Arrays.asList(tell.split(" ")));
        }
        boolean isLong = chance(12);
        if (isLong) {
            fill(words, 396 + upTo(8));
        }
        if (chance(25)) {
            spoil(words);
        }
        return joined(words, isLong || chance(30));
    }

    /** Laws, then shorter tells, until there are about so many tokens: close to the 400 that a text has room for. */
    private void fill(List<String> words, int tokens) {
        while (tokens - words.size() > 60) {
            String law = LAWS[random.nextInt(LAWS.length)];
            words.addAll(Arrays.asList((law + " = " + law(law) + " ;").split(" ")));
        }
        while (tokens - words.size() > 7) {
            words.addAll(Arrays.asList(("seed " + upTo(9999) + " ;").split(" ")));
        }
        words.addAll(Arrays.asList("worth = 1".split(" ")));
        while (tokens - words.size() > 2) {
            words.addAll(Arrays.asList("+ met".split(" ")));
        }
        words.add(";");
    }

    private String joined(List<String> words, boolean dense) {
        StringBuilder text = new StringBuilder();
        for (String word : words) {
            boolean glued = text.length() == 0 || dense && !isWordy(text.charAt(text.length() - 1), word.charAt(0));
            text.append(glued ? "" : chance(90) ? " " : chance(50) ? " \t" : "\r\n").append(word);
        }
        if (chance(10)) {
            text.append(" ");
        }
        return text.toString();
    }

    private static boolean isWordy(char left, char right) {
        return Character.isLetterOrDigit(left) && Character.isLetterOrDigit(right)
            && Character.isDigit(left) == Character.isDigit(right);
    }

    private void spoil(List<String> words) {
        int at = upTo(words.size());
        int kind = upTo(3);
        if (kind == 0 || words.isEmpty()) {
            words.add(at, ODD[random.nextInt(ODD.length)]);
        } else if (kind == 1) {
            words.remove(Math.min(at, words.size() - 1));
        } else if (kind == 2) {
            words.set(Math.min(at, words.size() - 1), ODD[random.nextInt(ODD.length)]);
        } else {
            words.subList(Math.min(at, words.size()), words.size()).clear();
        }
    }

    private List<String> tells() {
        List<String> tells = new ArrayList<>();
        if (chance(80)) {
            tells.add("hours " + (chance(98) ? 2 + upTo(chance(50) ? 6 : 22) : upTo(30)) + " ;");
        }
        int dials = chance(90) ? 1 + upTo(3) : upTo(5);
        int goers = dials == 0 ? 0 : chance(80) ? 2 + upTo(3) : upTo(6);
        for (int d = 0; d < dials; d++) {
            tells.add("dial " + name("d", d) + " " + upTo(chance(98) ? 23 : 30) + " " + upTo(chance(98) ? 23 : 30) + " ;");
        }
        for (int g = 0; g < goers; g++) {
            String dial = name("d", chance(98) ? random.nextInt(dials) : upTo(5));
            tells.add("goer " + name("g", g) + " " + dial + " " + upTo(23) + " " + (chance(98) ? 1 + upTo(6) : upTo(30)) + " ;");
        }
        for (String law : LAWS) {
            if (chance(45)) {
                tells.add(upTo(tells.size()), law + " = " + law(law) + " ;");
            }
        }
        if (chance(60)) {
            tells.add(upTo(tells.size()), "seed " + upTo(9999) + " ;");
        }
        if (chance(10)) {
            tells.add(upTo(tells.size()), "hours " + (2 + upTo(22)) + " ;");
        }
        return tells;
    }

    private String name(String sort, int number) {
        return (chance(99) ? sort : "d") + (char) ('a' + number);
    }

    private String law(String law) {
        StringBuilder text = new StringBuilder();
        int ifs = chance(60) ? 0 : chance(98) ? 1 + upTo(3) : 5;
        for (int i = 0; i < ifs; i++) {
            text.append("if ").append(sum(0)).append(" < ").append(sum(0)).append(" then ").append(value(law))
                .append(" else ");
        }
        return text.append(value(law)).toString();
    }

    private String value(String law) {
        if (law.equals("dims") && chance(60)) {
            return String.valueOf(upTo(120));
        }
        return law.equals("stays") && chance(40) ? "long - " + upTo(2) : sum(0);
    }

    private String sum(int depth) {
        StringBuilder text = new StringBuilder(unit(depth));
        int more = chance(40) ? 0 : 1 + upTo(2);
        for (int i = 0; i < more; i++) {
            text.append(' ').append("+-*/".charAt(upTo(3))).append(' ').append(unit(depth));
        }
        return text.toString();
    }

    private String unit(int depth) {
        if (depth < 7 && chance(depth == 0 ? 15 : 25)) {
            return "( " + sum(depth + 1) + " )";
        }
        if (chance(60)) {
            return VARS[random.nextInt(VARS.length)];
        }
        return String.valueOf(chance(95) ? upTo(9) : upTo(9999));
    }
}
