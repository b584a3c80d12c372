import java.util.ArrayList;
import java.util.List;

/**
 * A run of calls on a new object. Behind each call that only asks, and behind each that is refused, it is compared with
 * an object of the same past without that call: all that can be seen must be the same.
 */
final class Run {
    private final Edges edges;
    private final MoonDials x = new MoonDials();
    private final List<Call> past = new ArrayList<>();
    private List<Long> seen = null;
    private int made = 0;

    Run(Edges edges) {
        this.edges = edges;
    }

    /** Rows such as "turn(0, 8) = NONE", each on a line of its own or two blanks or more from the one ahead of it. */
    Run asks(String rows) {
        for (String row : rows.trim().split("\\s*\n\\s*|\\s{2,}")) {
            String[] sides = row.split(" = ");
            ask(new Call(sides[0]), Call.number(sides[1]));
        }
        return this;
    }

    private void ask(Call call, long want) {
        edges.is(call.toString(), make(call), want);
        if (call.changesNothing(want)) {
            edges.isTrue(call + " changes nothing", seenNow().equals(seenBehind(call)));
        } else {
            past.add(call);
            seen = null;
        }
    }

    /** An object, and a twin that is looked at as well, is good for 512 calls. */
    private long make(Call call) {
        made++;
        if (made > 512 || past.size() > 200) {
            throw new IllegalStateException("too many calls for one object");
        }
        return call.on(x);
    }

    /** Reads a text, which has no fault. */
    Run reads(String text) {
        return reads(text, 0, -1);
    }

    Run reads(String text, int fault, int place) {
        return feeds(text).asks("read() = " + fault + "  place() = " + place);
    }

    Run feeds(String text) {
        for (Call call : feeding(text)) {
            make(call);
            past.add(call);
        }
        seen = null;
        return this;
    }

    /** A text with a fault: it is told, and nothing but the tape changes. */
    Run refuses(String text, int fault, int place) {
        MoonDials twin = twin();
        twin.back(twin.count(8));
        feeding(text).forEach(call -> call.on(twin));
        edges.is("read() of " + text, twin.read(), fault);
        edges.is("place() of " + text, twin.place(), place);
        edges.is("bytes on the tape behind " + text, twin.count(8), 0);
        edges.isTrue("nothing but the tape is changed by " + text,
            Probe.of(this::withEmptyTape, false).equals(Probe.of(() -> behindText(text), false)));
        return this;
    }

    private static List<Call> feeding(String text) {
        List<Call> calls = new ArrayList<>();
        byte[] bytes = Texts.bytes(text);
        int fed = 0;
        for (; fed < bytes.length; fed += 20) {
            int[] i = Texts.ints(bytes, fed);
            calls.add(new Call("feed(" + i[0] + ", " + i[1] + ", " + i[2] + ", " + i[3] + ", " + i[4] + ")"));
        }
        if (fed > bytes.length) {
            calls.add(new Call("back(" + (fed - bytes.length) + ")"));
        }
        return calls;
    }

    private MoonDials twin() {
        MoonDials twin = new MoonDials();
        past.forEach(call -> call.on(twin));
        return twin;
    }

    private MoonDials withEmptyTape() {
        MoonDials twin = twin();
        twin.back(twin.count(8));
        return twin;
    }

    private MoonDials behindText(String text) {
        MoonDials twin = withEmptyTape();
        feeding(text).forEach(call -> call.on(twin));
        twin.read();
        return twin;
    }

    private List<Long> seenNow() {
        if (seen == null) {
            seen = Probe.of(this::twin, true);
        }
        return seen;
    }

    private List<Long> seenBehind(Call call) {
        return Probe.of(() -> {
            MoonDials twin = twin();
            call.on(twin);
            return twin;
        }, true);
    }
}
