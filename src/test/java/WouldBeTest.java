/**
 * Promises 16 to 35: what would be.
 *
 * <p>In GARDEN p is there at 2, 3, 4 every night; q at 3, 4, then 1, 2, then 7, 0, then 5, 6; r at 6, then 4, 2, 0; and
 * so on from the first on.
 */
public final class WouldBeTest {
    private static final Due DUE = new Due("WouldBeTest");
    private static final String GARDEN =
        "hours 8; dial a 0 0; dial b 3 2; goer p a 2 3; goer q b 6 2; goer r b 1 1;";
    private static final int MIN = Integer.MIN_VALUE;
    private static final int MAX = Integer.MAX_VALUE;

    private WouldBeTest() {
    }

    public static void main(String[] args) {
        meet();
        oftenAndAlone();
        earns();
        dialsByThemselves();
        turns();
        mend();
        soonerAndStrangers();
        by();
        peaceAndFavourite();
        couples();
        fullest();
        game();
        nothingHappens();
        firstHours();
        fromNowOn();
        DUE.end();
    }

    private static void meet() {
        MoonDials x = Texts.garden(GARDEN);
        DUE.is("p q", x.meet(3, 0), 0);
        DUE.is("p q hour", x.meet(3, 1), 3);
        DUE.is("p q hours", x.meet(3, 2), 2);
        DUE.is("p r", x.meet(5, 0), 1);
        DUE.is("p r hour", x.meet(5, 1), 4);
        DUE.is("p r hours", x.meet(5, 2), 1);
        for (int what = 0; what < 3; what++) {
            DUE.is("q r " + what, x.meet(6, what), -2);
            DUE.is("all " + what, x.meet(7, what), -2);
        }
        for (int set : new int[] {0, 1, 2, 4, 8, 9, 11, -1, 35, MIN, MIN | 3, MAX}) {
            DUE.is("set " + set, x.meet(set, 0), -1);
        }
        DUE.is("what 3", x.meet(3, 3), -1);
        DUE.is("what -1", x.meet(6, -1), -1);
        String late = "dial a 0 0; goer p a 0 1; goer q a 0 1; comes = night - ";
        DUE.is("behind 400", Texts.garden(late + "399;").meet(3, 0), 400);
        DUE.is("behind 401", Texts.garden(late + "400;").meet(3, 0), -2);
    }

    private static void oftenAndAlone() {
        MoonDials x = Texts.garden(GARDEN);
        int[] often = {0, 2, 3, 3, 3, 5};
        for (int n = 0; n < often.length; n++) {
            DUE.is("often " + n, x.often(0, 1, n), often[n]);
        }
        DUE.is("often 200", x.often(1, 0, 200), 150);
        DUE.is("often 201", x.often(1, 0, 201), -1);
        DUE.is("often -1", x.often(1, 0, -1), -1);
        DUE.is("often of one", x.often(1, 1, 1), -1);
        DUE.is("often goer 3", x.often(1, 3, 1), -1);
        DUE.is("often goer -1", x.often(-1, 1, 1), -1);
        DUE.is("alone p", x.alone(0, 4), 7);
        DUE.is("alone q", x.alone(1, 4), 5);
        DUE.is("alone r", x.alone(2, 4), 2);
        DUE.is("alone 0", x.alone(2, 0), 0);
        DUE.is("alone 200", x.alone(2, 200), 100);
        DUE.is("alone 201", x.alone(2, 201), -1);
        DUE.is("alone -1", x.alone(2, -1), -1);
        DUE.is("alone goer 3", x.alone(3, 1), -1);
        DUE.is("alone goer -1", x.alone(-1, 1), -1);
        DUE.is("longest", x.longest(0, 1, 4), 2);
        DUE.is("longest", x.longest(2, 0, 4), 1);
        DUE.is("longest never", x.longest(2, 1, 200), 0);
        DUE.is("longest 0", x.longest(0, 1, 0), 0);
        DUE.is("longest 201", x.longest(0, 1, 201), -1);
        DUE.is("longest -1", x.longest(0, 1, -1), -1);
        DUE.is("longest of one", x.longest(1, 1, 1), -1);
        DUE.is("longest goer 3", x.longest(3, 1, 1), -1);
        x.nights(1);
        DUE.is("longest from night 1", x.longest(0, 1, 3), 1);
        DUE.is("often from night 1", x.often(0, 1, 3), 1);
    }

    private static void earns() {
        MoonDials x = Texts.garden(GARDEN);
        DUE.is("earns", x.earns(0, 4), 5);
        DUE.is("earns 0", x.earns(0, 0), 0);
        DUE.is("earns 201", x.earns(0, 201), -1);
        DUE.is("earns -1", x.earns(0, -1), -1);
        DUE.is("earns goer 3", x.earns(3, 1), -1);
        // 2 hours at 1, 2 at 2 + 10 * 2, 1 at 3 + 10 * 4.
        MoonDials y = Texts.garden(GARDEN + "worth = night + 1 + 10 * met;");
        DUE.is("earns by night and met", y.earns(0, 4), 2 + 44 + 43);
        DUE.is("earns held to 99", Texts.garden(GARDEN + "worth = 1000;").earns(0, 1), 198);
    }

    private static void dialsByThemselves() {
        MoonDials x = Texts.garden(GARDEN + "dial c 4 4; dial d 3 1;");
        int[] right = {0, -2, 1, 5};
        for (int d = 0; d < 4; d++) {
            DUE.is("right " + d, x.right(d), right[d]);
            DUE.is("agree with itself", x.agree(d, d), 0);
        }
        DUE.is("right 4", x.right(4), -1);
        DUE.is("right -1", x.right(-1), -1);
        DUE.is("agree a b", x.agree(0, 1), -2);
        DUE.is("agree b a", x.agree(1, 0), -2);
        DUE.is("agree a c", x.agree(0, 2), 1);
        DUE.is("agree a d", x.agree(0, 3), 5);
        DUE.is("agree b d", x.agree(1, 3), 0);
        DUE.is("agree b c", x.agree(1, 2), -2);
        DUE.is("agree 4", x.agree(0, 4), -1);
        DUE.is("agree -1", x.agree(-1, 0), -1);
        DUE.is("round", x.round(), 8);
        DUE.is("round of b", Texts.garden(GARDEN).round(), 4);
        DUE.is("round of a", Texts.garden("hours 8; dial a 3 0;").round(), 1);
        DUE.is("round of none", new MoonDials().round(), 1);
        DUE.is("round of 2 and 3", Texts.garden("hours 6; dial a 0 3; dial b 0 2;").round(), 6);
        DUE.is("round of 24", Texts.garden("hours 24; dial a 0 23;").round(), 24);
        DUE.is("right of 24", Texts.garden("hours 24; dial a 1 1;").right(0), 23);
    }

    private static void turns() {
        MoonDials x = Texts.garden(GARDEN);
        DUE.is("turns p q 0", x.turns(1, 3, 0), 0);
        DUE.is("turns p r 0", x.turns(1, 5, 0), 2);
        DUE.is("turns p r 1", x.turns(1, 5, 1), 0);
        DUE.is("turns q r", x.turns(1, 6, 60), -2);
        DUE.is("turns all", x.turns(0, 7, 5), -2);
        DUE.is("turns a p r 0", x.turns(0, 5, 0), 4);
        DUE.is("parts p q 0", x.parts(1, 3, 0), 3);
        DUE.is("parts p q 1", x.parts(1, 3, 1), 3);
        DUE.is("parts p q 3", x.parts(1, 3, 3), -2);
        DUE.is("parts q r", x.parts(1, 6, 60), 0);
        DUE.is("knot", x.knot(1, 3, 5, 0), 0);
        DUE.is("knot", x.knot(1, 5, 3, 0), 3);
        DUE.is("knot", x.knot(1, 3, 5, 1), 5);
        DUE.is("knot of the same", x.knot(1, 3, 3, 1), -2);
        int[][] wrong = {{2, 3, 0}, {-1, 3, 0}, {0, 1, 0}, {0, 8, 0}, {0, 0, 0}, {0, 3, 61}, {0, 3, -1}, {0, MIN, 0},
            {0, MIN | 3, 0}, {MAX, 3, 0}, {0, 3, MIN}};
        for (int[] w : wrong) {
            DUE.is("turns wrong", x.turns(w[0], w[1], w[2]), -1);
            DUE.is("parts wrong", x.parts(w[0], w[1], w[2]), -1);
            DUE.is("mend wrong", x.mend(w[0], w[1], w[2]), -1);
            DUE.is("knot wrong", x.knot(w[0], w[1], 3, w[2]), -1);
            DUE.is("knot wrong", x.knot(w[0], 3, w[1], w[2]), -1);
        }
    }

    private static void mend() {
        MoonDials x = Texts.garden(GARDEN);
        DUE.is("mend p r 0", x.mend(1, 5, 0), -2);
        DUE.is("mend p r 1", x.mend(1, 5, 1), 2);
        DUE.is("mend p r 2", x.mend(1, 5, 2), 1);
        DUE.is("mend p q 0", x.mend(1, 3, 0), 0);
        DUE.is("mend q r 60", x.mend(1, 6, 60), -2);
        DUE.is("mend a p r 1", x.mend(0, 5, 1), 0);
    }

    private static void soonerAndStrangers() {
        MoonDials x = Texts.garden(GARDEN);
        DUE.is("sooner", x.sooner(0), 1);
        DUE.is("sooner behind", x.sooner(1), 0);
        DUE.is("sooner 2", x.sooner(2), -1);
        DUE.is("sooner -1", x.sooner(-1), -1);
        DUE.is("strangers p", x.strangers(0), 0);
        DUE.is("strangers q", x.strangers(1), 4);
        DUE.is("strangers r", x.strangers(2), 2);
        DUE.is("strangers 3", x.strangers(3), -1);
        DUE.is("strangers -1", x.strangers(-1), -1);
        x.turn(1, 3);
        DUE.is("sooner p r", x.sooner(0), 2);
        x.turn(1, 2);
        // b is out by 0: r at 1, q at 6, 7; then by 2: q at 4, 5.
        DUE.is("sooner later", x.sooner(0), 1);
        DUE.is("sooner behind 1", x.sooner(1), 1);
        MoonDials y = Texts.garden("dial a 0 0; goer p a 0 1; goer q a 1 1; goer r a 2 2; goer s a 3 1;");
        DUE.is("sooner of the last", y.sooner(0), 23);
        DUE.is("strangers of s", y.strangers(3), 3);
        MoonDials z = Texts.garden("dial a 0 0; goer p a 0 1; goer q a 1 1;");
        DUE.is("sooner none", z.sooner(0), -2);
        DUE.is("sooner none behind", z.sooner(1), -2);
        DUE.is("strangers", z.strangers(0), 2);
        String late = "dial a 0 0; goer p a 0 1; goer q a 0 1; comes = night - ";
        DUE.is("strangers until 400", Texts.garden(late + "399;").strangers(0), 0);
        DUE.is("strangers behind 401", Texts.garden(late + "400;").strangers(0), 2);
        DUE.is("sooner behind 400", Texts.garden(late + "399;").sooner(1), 400);
        DUE.is("sooner behind 401", Texts.garden(late + "400;").sooner(1), -2);
    }

    private static void by() {
        MoonDials x = Texts.garden(GARDEN);
        int[][] due = {{1, 0, 1, 3}, {2, 0, 1, 2}, {0, 1, 0, 3}, {2, 1, 0, 1}};
        for (int[] d : due) {
            DUE.is("by " + d[0] + d[1], x.by(d[0], d[1], 4, 0), d[2]);
            DUE.is("by " + d[0] + d[1], x.by(d[0], d[1], 4, 1), d[3]);
        }
        DUE.is("by in 0", x.by(1, 0, 0, 0), 0);
        DUE.is("by in 0", x.by(1, 0, 0, 1), 0);
        DUE.is("by in 200", x.by(1, 0, 200, 1), 150);
        DUE.is("by in 201", x.by(1, 0, 201, 1), -1);
        DUE.is("by in -1", x.by(1, 0, -1, 1), -1);
        DUE.is("by what 2", x.by(1, 0, 1, 2), -1);
        DUE.is("by what -1", x.by(1, 0, 1, -1), -1);
        DUE.is("by of one", x.by(1, 1, 1, 0), -1);
        DUE.is("by goer 3", x.by(3, 1, 1, 0), -1);
        DUE.is("by goer -1", x.by(1, -1, 1, 0), -1);
    }

    private static void peaceAndFavourite() {
        MoonDials x = Texts.garden(GARDEN);
        DUE.is("peace 4", x.peace(4, 0), 1);
        DUE.is("peace 4 who", x.peace(4, 1), 1);
        DUE.is("peace 0", x.peace(0, 1), 0);
        DUE.is("peace 60", x.peace(60, 1), 1);
        DUE.is("peace 61", x.peace(61, 1), -1);
        DUE.is("peace -1", x.peace(-1, 1), -1);
        DUE.is("peace what 2", x.peace(1, 2), -1);
        DUE.is("peace what -1", x.peace(1, -1), -1);
        // p with q, r with s and t: one of p and q, and r.
        MoonDials y = Texts.garden("dial a 0 0; goer p a 0 1; goer q a 0 1; goer s a 4 1; goer t a 6 1; goer r a 4 3;");
        DUE.is("peace of two", y.peace(1, 0), 2);
        DUE.is("peace who", y.peace(1, 1), 17);
        MoonDials z = Texts.garden("dial a 0 0; goer p a 0 1; goer q a 0 1; goer r a 0 1;");
        DUE.is("peace of three", z.peace(1, 1), 3);
        DUE.is("favourite 4", x.favourite(4, 0), 2);
        DUE.is("favourite 4 in", x.favourite(4, 1), 2);
        DUE.is("favourite 1", x.favourite(1, 0), 3);
        DUE.is("favourite 0", x.favourite(0, 0), 0);
        DUE.is("favourite 0 in", x.favourite(0, 1), 0);
        DUE.is("favourite 60", x.favourite(60, 1), 30);
        DUE.is("favourite 61", x.favourite(61, 1), -1);
        DUE.is("favourite -1", x.favourite(-1, 1), -1);
        DUE.is("favourite what 2", x.favourite(1, 2), -1);
        DUE.is("favourite what -1", x.favourite(1, -1), -1);
        DUE.is("favourite of all", z.favourite(7, 1), 7);
    }

    private static void couples(String told, MoonDials x, int n, int[] due) {
        for (int i = -1; i < due.length - 1; i++) {
            DUE.is(told + " " + i, x.couples(n, i), due[i + 1]);
        }
        DUE.is(told + " beyond", x.couples(n, due.length - 1), -1);
    }

    private static void couples() {
        MoonDials x = Texts.garden(GARDEN);
        couples("couples 4", x, 4, new int[] {3, 1, 0, -2});
        couples("couples 0", x, 0, new int[] {0, -2, -2, -2});
        couples("couples 60", x, 60, new int[] {45, 1, 0, -2});
        DUE.is("couples 61", x.couples(61, -1), -1);
        DUE.is("couples -1", x.couples(-1, 0), -1);
        DUE.is("couples i -2", x.couples(1, -2), -1);
        DUE.is("couples i min", x.couples(1, MIN), -1);
        // All alike: the first stays with nobody, if the others can make as much.
        String all = "dial a 0 0; goer p a 0 1; goer q a 0 1; goer r a 0 1;";
        couples("three alike", Texts.garden(all), 2, new int[] {2, -2, 2, 1});
        couples("four alike", Texts.garden(all + "goer s a 0 1;"), 2, new int[] {4, 1, 0, 3, 2});
        couples("five alike", Texts.garden(all + "goer s a 0 1; goer t a 0 1;"), 2, new int[] {4, -2, 2, 1, 4, 3});
        // q with p 3, with r 3, r with s 2: p q and r s.
        String row = "dial a 0 0; goer p a 0 3; goer q a 0 6; goer r a 3 5; goer s a 6 2;";
        couples("a row", Texts.garden(row), 1, new int[] {5, 1, 0, 3, 2});
        couples("none", new MoonDials(), 1, new int[] {0});
    }

    private static void fullest() {
        MoonDials x = Texts.garden(GARDEN + "dims = 100; seed 3;");
        DUE.is("fullest", x.fullest(0), 3);
        DUE.is("fullest many", x.fullest(1), 2);
        DUE.is("fullest 2", x.fullest(2), -1);
        DUE.is("fullest -1", x.fullest(-1), -1);
        DUE.is("fullest of none", new MoonDials().fullest(0), 0);
        x.nights(3);
        DUE.is("fullest of ones", x.fullest(0), 0);
        DUE.is("fullest of ones many", x.fullest(1), 1);
    }

    private static void game() {
        MoonDials x = Texts.garden(GARDEN);
        int[] due = {2, 2, 3};
        for (int n = 1; n <= 3; n++) {
            DUE.is("game " + n, x.game(1, n, 0), due[n - 1]);
            DUE.is("game move " + n, x.game(1, n, 1), 0);
        }
        x.turn(1, 7);
        // b is out by 2: 1 hour as it is, 2 if turned on by 1.
        DUE.is("game turned", x.game(1, 1, 0), 2);
        DUE.is("game turned move", x.game(1, 1, 1), 1);
        DUE.is("game 0", x.game(1, 0, 0), -1);
        DUE.is("game 7", x.game(1, 7, 0), -1);
        DUE.is("game what 2", x.game(1, 1, 2), -1);
        DUE.is("game what -1", x.game(1, 1, -1), -1);
        DUE.is("game dial 2", x.game(2, 1, 0), -1);
        DUE.is("game dial -1", x.game(-1, 1, 0), -1);
        DUE.is("game of one", Texts.garden("dial a 0 0; goer p a 0 1;").game(0, 1, 0), -1);
        // p and q are always together: no turn tells.
        MoonDials y = Texts.garden("hours 2; dial a 0 1; goer p a 0 1; goer q a 0 1;");
        DUE.is("game 6", y.game(0, 6, 0), 6);
        DUE.is("game 6 move", y.game(0, 6, 1), 0);
    }

    private static void nothingHappens() {
        // Though every night has eclipses, what would be is asked without them.
        MoonDials x = Texts.garden(GARDEN + "dims = 100; seed 7;");
        DUE.is("meet clear", x.meet(5, 1), 4);
        DUE.is("often clear", x.often(0, 1, 5), 5);
        DUE.is("alone clear", x.alone(1, 4), 5);
        DUE.is("earns clear", x.earns(0, 4), 5);
        DUE.is("turns clear", x.turns(1, 5, 0), 2);
        DUE.is("couples clear", x.couples(4, -1), 3);
        DUE.is("game clear", x.game(1, 3, 0), 3);
        DUE.is("longest clear", x.longest(0, 1, 4), 2);
        DUE.is("favourite clear", x.favourite(4, 0), 2);
        x.mend(1, 5, 2);
        x.by(0, 1, 9, 0);
        DUE.is("night", x.count(3), 0);
        DUE.is("met", x.count(4), 0);
        DUE.is("out", x.dial(1, 0), 3);
        DUE.is("slip", x.dial(1, 1), 2);
        DUE.is("dial of p", x.goer(0, 0), 0);
        DUE.is("undo", x.count(9), 0);
        // What would be goes by who would have met: after two hours nobody comes.
        MoonDials y = Texts.garden("hours 4; dial a 0 0; goer p a 0 1; goer q a 0 1; comes = 2 - met;");
        DUE.is("often by met", y.often(0, 1, 9), 2);
        DUE.is("alone by met", y.alone(0, 9), 0);
    }

    private static void firstHours() {
        MoonDials x = Texts.garden("hours 5; dial a 0 0; goer p a 0 2; goer q a 0 1; goer r a 1 1;");
        DUE.is("meet at 0", x.meet(3, 1), 0);
        DUE.is("meet at 1", x.meet(5, 1), 1);
        DUE.is("fullest", x.fullest(0), 0);
        DUE.is("favourite", x.favourite(3, 0), 0);
        DUE.is("favourite in", x.favourite(3, 1), 3);
        DUE.is("favourite in again", x.favourite(3, 1), 3);
        DUE.is("longest", x.longest(0, 1, 1), 1);
        x.turn(0, 4);
        DUE.is("meet at 1", x.meet(3, 1), 1);
        DUE.is("fullest at 1", x.fullest(0), 1);
        DUE.is("favourite at 1", x.favourite(3, 0), 1);
        MoonDials y = Texts.garden("hours 5; dial a 0 0; goer p a 0 2; goer q a 2 1;");
        DUE.is("strangers of the second", y.strangers(1), 1);
        MoonDials z = Texts.garden("hours 5; dial a 0 1; dial b 0 0; goer p a 0 1; goer q b 3 1;");
        DUE.is("the second meets the first later", z.strangers(1), 0);
        DUE.is("sooner later", z.sooner(1), 2);
    }

    /** Each call asks from now on, whatever was asked ahead of it. */
    private static void fromNowOn() {
        MoonDials x = Texts.garden(GARDEN);
        for (int i = 0; i < 2; i++) {
            x.meet(6, 0);
            DUE.is("meet", x.meet(5, 0), 1);
            x.often(0, 1, 5);
            DUE.is("often", x.often(0, 1, 1), 2);
            DUE.is("alone", x.alone(0, 1), 1);
            DUE.is("alone", x.alone(0, 2), 2);
            DUE.is("earns", x.earns(0, 1), 2);
            DUE.is("earns", x.earns(0, 2), 4);
            DUE.is("sooner", x.sooner(1), 0);
            DUE.is("peace", x.peace(1, 1), 1);
            DUE.is("favourite", x.favourite(1, 0), 3);
            DUE.is("favourite", x.favourite(1, 0), 3);
            DUE.is("longest", x.longest(0, 1, 1), 2);
            DUE.is("longest", x.longest(0, 1, 1), 2);
            DUE.is("couples", x.couples(1, -1), 2);
            DUE.is("couples", x.couples(1, -1), 2);
            x.strangers(1);
            DUE.is("strangers", x.strangers(0), 0);
            DUE.is("fullest", x.fullest(1), 2);
            x.outIn(1, 3);
            x.metIn(0, 3);
            DUE.is("there", x.there(3), 3);
            x.hold(0);
            x.nights(3);
            DUE.is("alone in night 3", x.alone(0, 1), 3);
            DUE.is("earns in night 3", x.earns(0, 1), 0);
            DUE.is("peace in night 3", x.peace(1, 1), 0);
            DUE.is("couples in night 3", x.couples(1, -1), 0);
            DUE.is("favourite in night 3", x.favourite(1, 1), 0);
            DUE.is("longest in night 3", x.longest(0, 1, 1), 0);
            DUE.is("sooner in night 3", x.sooner(1), 1);
            x.restore(0);
        }
    }
}
