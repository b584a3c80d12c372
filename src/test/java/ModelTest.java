import java.lang.reflect.Method;
import java.util.ArrayList;
import java.util.Arrays;
import java.util.List;
import java.util.Random;

/** Runs of calls by chance, each answer compared with the model's. Arguments: the first seed, how many runs. */
public final class ModelTest {
    // Of each call the sort of each argument: see argument(..).
    private static final String[] CALLS = {"back t", "place", "dial d w", "shows d h", "goer g w", "together g g",
        "there h", "turn d h", "turn d h", "follow g d", "follow g d", "slip d h", "slip d h", "nights m", "nights l",
        "nights l", "undo", "undo", "meet s w", "often g g m", "alone g m", "earns g m", "right d", "agree d d", "round",
        "turns d s p", "parts d s p", "knot d s s p", "mend d s p", "sooner w", "strangers g", "by g g m b", "peace p b",
        "favourite p b", "longest g g m", "couples p i", "fullest b", "game d k b", "metIn g m", "outIn d m",
        "year g g m y", "tell n h f", "tell n h f", "tell n h f", "forget", "fits q g b", "look q g h", "hold z",
        "restore z", "count c", "count c"};
    private static final int[] ODD = {Integer.MIN_VALUE, Integer.MAX_VALUE, -1, -2};
    // By which a number that is too large could be taken for one that is right, if bits of it were lost.
    private static final int[] FAR = {32, -32, 64, 256, 65536, 1 << 31};
    private final Due due = new Due("ModelTest");
    private final Random random;
    private final RandomTexts texts;
    private final List<String> calls = new ArrayList<>();
    private MoonDials real;
    private Model model;

    private ModelTest(long seed) {
        random = new Random(seed);
        texts = new RandomTexts(random);
    }

    public static void main(String[] args) throws Exception {
        long seed = args.length > 0 ? Long.parseLong(args[0]) : 1;
        int runs = args.length > 1 ? Integer.parseInt(args[1]) : 150;
        ModelTest test = new ModelTest(seed);
        for (int run = 0; run < runs; run++) {
            test.run();
        }
        test.due.end();
    }

    private void run() throws Exception {
        real = new MoonDials();
        model = new Model();
        calls.clear();
        int left = 160;
        while (left > 0) {
            if (calls.isEmpty() || random.nextInt(100) < 2) {
                left -= readText();
            } else {
                ask(CALLS[random.nextInt(CALLS.length)]);
                left--;
            }
        }
    }

    private int readText() {
        String text = texts.text();
        byte[] bytes = Texts.bytes(text);
        calls.add("text " + text.replace("\n", "\\n").replace("\r", "\\r").replace("\t", "\\t"));
        int fed = 0;
        for (; fed < bytes.length; fed += 20) {
            int[] i = Texts.ints(bytes, fed);
            same("feed", real.feed(i[0], i[1], i[2], i[3], i[4]), model.feed(i[0], i[1], i[2], i[3], i[4]));
        }
        if (fed <= 2000) {
            same("back", real.back(fed - bytes.length), model.back(fed - bytes.length));
        }
        same("read", real.read(), model.read());
        same("place", real.place(), model.place());
        for (int what = 0; what <= 17; what++) {
            same("count " + what, real.count(what), model.count(what));
        }
        return 5;
    }

    private void ask(String call) throws Exception {
        String[] words = call.split(" ");
        Object[] values = new Object[words.length - 1];
        Class<?>[] types = new Class<?>[words.length - 1];
        for (int i = 0; i < values.length; i++) {
            values[i] = argument(words[i + 1].charAt(0));
            types[i] = values[i] instanceof Boolean ? boolean.class : int.class;
        }
        Method one = MoonDials.class.getDeclaredMethod(words[0], types);
        Method two = Model.class.getDeclaredMethod(words[0], types);
        String told = words[0] + Arrays.toString(values);
        calls.add(told);
        same(told, number(one.invoke(real, values)), number(two.invoke(model, values)));
    }

    private static long number(Object answer) {
        if (answer instanceof Boolean) {
            return (Boolean) answer ? 1 : 0;
        }
        return (Integer) answer;
    }

    private int between(int least, int most) {
        return least + random.nextInt(most - least + 1);
    }

    private Object argument(char sort) {
        if (sort == 'f') {
            return random.nextBoolean();
        }
        int value = ordinary(sort);
        int odd = random.nextInt(60 * ODD.length);
        if (odd < ODD.length) {
            return ODD[odd];
        }
        int far = random.nextInt(60 * FAR.length);
        return far < FAR.length ? value + FAR[far] : value;
    }

    private int ordinary(char sort) {
        boolean edge = random.nextInt(15) == 0;
        switch (sort) {
            case 't':
                return between(-1, 3);
            case 'd':
                return edge ? between(-1, 4) : random.nextInt(Math.max(1, real.count(1)));
            case 'g':
                return edge ? between(-1, 5) : random.nextInt(Math.max(1, real.count(2)));
            case 'i':
                return between(-1, edge ? 5 : Math.max(-1, real.count(2) - 1));
            case 'h':
                return edge ? between(-1, 24) : random.nextInt(real.count(0));
            case 's':
                return edge ? between(-1, 40) : random.nextInt(1 << Math.max(1, real.count(2)));
            case 'w':
                return between(edge ? -1 : 0, edge ? 7 : 6);
            case 'b':
                return edge ? between(-1, 2) : between(0, 1);
            case 'm':
                return edge ? between(198, 202) : random.nextInt(30);
            case 'l':
                return random.nextInt(4);
            case 'p':
                return edge ? between(58, 62) : random.nextInt(16);
            case 'k':
                return edge ? between(0, 7) : between(1, 4);
            case 'y':
                return edge ? between(19, 21) : between(0, 5);
            case 'n':
                return edge ? between(29, 32) : random.nextInt(6);
            case 'q':
                return edge ? between(0, 21) : random.nextInt(real.count(10) + 1);
            case 'z':
                return between(edge ? -1 : 0, edge ? 3 : 2);
            default:
                return between(edge ? -1 : 0, edge ? 18 : 16);
        }
    }

    private void same(String call, long got, long want) {
        due.is(call, got, want);
        if (got != want) {
            System.out.println("  behind " + calls);
            due.end();
        }
    }
}
