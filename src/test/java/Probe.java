import java.util.ArrayList;
import java.util.List;
import java.util.function.Supplier;

/**
 * All that the document lets calls see of an object: how it is, and what would come of undo, restore, fits and read.
 * Some of these change it, so each look is at another object of the same past.
 */
final class Probe {
    private static final int UNDONE_AT_ONCE = 12;
    private final List<Long> seen = new ArrayList<>();

    private Probe() {
    }

    /** What can be seen; what place() answers only if it is asked for. */
    static List<Long> of(Supplier<MoonDials> twins, boolean withPlace) {
        Probe probe = new Probe();
        probe.add(withPlace ? twins.get().place() : 0);
        probe.lookAtNow(twins.get());
        for (int first = 0; first <= 40; first += UNDONE_AT_ONCE) {
            probe.lookAtPast(twins.get(), first);
        }
        for (int slot = 0; slot < 3; slot++) {
            MoonDials x = twins.get();
            probe.add(x.restore(slot) ? 1 : 0);
            probe.lookAtNow(x);
        }
        probe.lookAtTold(twins.get());
        probe.lookAtTape(twins.get());
        return probe.seen;
    }

    private void add(long answer) {
        seen.add(answer);
    }

    private void lookAtNow(MoonDials x) {
        for (int what = 0; what <= 16; what++) {
            add(x.count(what));
        }
        lookAtDials(x);
        for (int g = 0; g < 5; g++) {
            for (int what = 0; what <= 6; what++) {
                add(x.goer(g, what));
            }
            for (int other = 0; other < g; other++) {
                add(x.together(g, other));
                add(x.together(other, g));
            }
        }
        for (int hour = 0; hour < 24; hour++) {
            add(x.there(hour));
        }
    }

    private void lookAtDials(MoonDials x) {
        for (int d = 0; d < 4; d++) {
            add(x.dial(d, 0));
            add(x.dial(d, 1));
            add(x.dial(d, 2));
            add(x.dial(d, 3));
            add(x.shows(d, 0));
        }
    }

    private void lookAtPast(MoonDials x, int first) {
        for (int i = 0; i < first; i++) {
            x.undo();
        }
        for (int i = 0; i < UNDONE_AT_ONCE && x.undo(); i++) {
            add(x.count(3));
            add(x.count(4));
            add(x.count(9));
            for (int d = 0; d < 4; d++) {
                add(x.dial(d, 0));
                add(x.dial(d, 1));
            }
            for (int g = 0; g < 5; g++) {
                add(x.goer(g, 0));
                add(x.goer(g, 6));
            }
        }
    }

    private void lookAtTold(MoonDials x) {
        for (int k = 0; k <= 21; k++) {
            for (int g = 0; g < 5; g++) {
                add(x.fits(k, g, 1));
            }
        }
        add(x.forget());
    }

    private void lookAtTape(MoonDials x) {
        add(x.count(8));
        add(x.read());
        add(x.place());
        lookAtNow(x);
    }
}
