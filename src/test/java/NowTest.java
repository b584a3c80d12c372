/** Promises 6 to 15: how it is, and what is done. */
public final class NowTest {
    private static final Due DUE = new Due("NowTest");
    private static final String GARDEN =
        "hours 8; dial a 0 0; dial b 3 2; goer p a 2 3; goer q b 6 2; goer r b 1 1;";

    private NowTest() {
    }

    public static void main(String[] args) {
        dials();
        goers();
        laws();
        there();
        byHand();
        nights();
        eclipses();
        undo();
        DUE.end();
    }

    private static void dials() {
        MoonDials x = Texts.garden(GARDEN + "dims = 10 * out + which + day + goers + from + long + met;");
        DUE.is("out", x.dial(1, 0), 3);
        DUE.is("slip", x.dial(1, 1), 2);
        DUE.is("dims a", x.dial(0, 2), 11);
        DUE.is("dims b", x.dial(1, 2), 42);
        DUE.is("what 4", x.dial(1, 4), -1);
        DUE.is("what -1", x.dial(1, -1), -1);
        DUE.is("dial 2", x.dial(2, 0), -1);
        DUE.is("dial -1", x.dial(-1, 0), -1);
        DUE.is("shows", x.shows(1, 4), 7);
        DUE.is("shows", x.shows(1, 5), 0);
        DUE.is("shows", x.shows(0, 7), 7);
        DUE.is("shows hour 8", x.shows(0, 8), -1);
        DUE.is("shows hour -1", x.shows(0, -1), -1);
        DUE.is("shows dial 2", x.shows(2, 0), -1);
        DUE.is("dims held below", Texts.garden("dial a 0 0; dims = 0 - 5;").dial(0, 2), 0);
        DUE.is("dims held above", Texts.garden("dial a 0 0; dims = 101;").dial(0, 2), 100);
        DUE.is("dims by itself", Texts.garden("dial a 0 0;").dial(0, 2), 0);
        DUE.is("no eclipse", Texts.garden("dial a 0 0;").dial(0, 3), 0);
    }

    private static void goers() {
        MoonDials x = Texts.garden(GARDEN);
        int[][] due = {{0, 2, 3, 1, 3, 1, 0}, {1, 6, 2, 1, 2, 1, 0}, {1, 1, 1, 1, 1, 1, 0}};
        for (int g = 0; g < 3; g++) {
            for (int what = 0; what < 7; what++) {
                DUE.is("goer " + g + " " + what, x.goer(g, what), due[g][what]);
            }
        }
        DUE.is("what 7", x.goer(0, 7), -1);
        DUE.is("what -1", x.goer(0, -1), -1);
        DUE.is("goer 3", x.goer(3, 0), -1);
        DUE.is("goer -1", x.goer(-1, 0), -1);
        DUE.is("together", x.together(0, 1), 0);
        DUE.is("together with oneself", x.together(1, 1), -1);
        DUE.is("together 3", x.together(0, 3), -1);
        DUE.is("together -1", x.together(-1, 0), -1);
    }

    private static void worth(String law, int due) {
        DUE.is(law, Texts.garden("hours 8; dial a 5 3; goer p a 6 2; worth = " + law + ";").goer(0, 5), due);
    }

    private static void laws() {
        worth("7 - 2 - 1", 4);
        worth("7 - (2 - 1)", 6);
        worth("2 + 3 * 4", 14);
        worth("(2 + 3) * 4", 20);
        worth("20 / 3 / 2", 3);
        worth("20 / (7 / 2)", 6);
        worth("2 * 7 / 4", 3);
        worth("7 / 4 * 2", 2);
        worth("50 + (0 - 7) / 2", 47);
        worth("98 + 5", 99);
        worth("3 - 5", 0);
        worth("out", 5);
        worth("slip", 3);
        worth("from", 6);
        worth("long", 2);
        worth("day + goers", 9);
        worth("night + met + which", 0);
        worth("5 + 1 / 0", 0);
        worth("5 + 0 / (3 - 3)", 0);
        worth("if 1 < 2 then 3 else 1 / 0", 3);
        worth("if 2 < 2 then 1 / 0 else 4", 4);
        worth("if 1 < 2 then 1 / 0 else 4", 0);
        worth("if 1 / 0 < 2 then 3 else 4", 0);
        worth("if 2 < 1 / 0 then 3 else 4", 0);
        worth("if 2 < 1 then 3 else if 1 < 2 then 4 else if 1 / 0 < 2 then 5 else 6", 4);
        worth("if 0 - 1 < 0 then 3 else 4", 3);
        worth("if 9999 * 9999 * 9999 < 0 then 3 else 4", 3);
        worth("9999 * 9999 * 9999 / 9999 / 9999 + 50", 40);
        worth("1 + (2 * (3 + (4 * (5 - (6 - (1 * 2))))))", 15);
        worth("if 8 * 8 * 8 * 8 * 8 * 8 * 8 * 8 * 8 * 8 * 2 < 0 then 3 else 4", 3);
        worth("if (8 * 8 * 8 * 8 * 8 * 8 * 8 * 8 * 8 * 8 * 2) / (0 - 1) < 0 then 3 else 4", 3);
        DUE.is("stays above", Texts.garden("hours 8; dial a 0 0; goer p a 0 1; stays = 99;").goer(0, 4), 8);
        DUE.is("stays below", Texts.garden("hours 8; dial a 0 0; goer p a 0 1; stays = 0 - 1;").goer(0, 4), 0);
        // As long as a text of 400 tokens can have them.
        String sum = "1+".repeat(191) + "1-100";
        DUE.is("a long worth", Texts.garden("dial a 0 0;goer p a 0 1;worth=" + sum + ";").goer(0, 5), 92);
        DUE.is("a longer dims", Texts.garden("dial a 0 0;dims=1+1+1+" + sum + ";").dial(0, 2), 95);
        String deep = "9-8*(9-8*(9-8*(9-8*(9-8*(9-8*(1)))))) ".trim();
        worth("if 1 + " + deep + " < 3 then " + deep + " + 41 else 1", 42);
        DUE.is("comes 0", Texts.garden("dial a 0 0; goer p a 0 1; comes = 0;").goer(0, 3), 0);
        DUE.is("comes -1", Texts.garden("dial a 0 0; goer p a 0 1; comes = 0 - 1;").goer(0, 3), 0);
        DUE.is("comes 2", Texts.garden("dial a 0 0; goer p a 0 1; comes = 2;").goer(0, 3), 1);
        DUE.is("comes by 0", Texts.garden("dial a 0 0; goer p a 0 1; comes = 1 / 0;").goer(0, 3), 0);
        MoonDials x = Texts.garden("dial a 0 0; goer p a 0 1; goer q a 0 1; comes = which; worth = night * 10 + met;");
        DUE.is("who comes", x.count(5), 2);
        MoonDials y = Texts.garden("dial a 0 0; goer p a 0 2; goer q a 1 2; worth = night * 10 + met;");
        y.nights(3);
        DUE.is("night and met", y.goer(1, 5), 33);
    }

    private static void there() {
        MoonDials x = Texts.garden(GARDEN);
        int[] due = {0, 0, 1, 3, 3, 0, 4, 0};
        for (int h = 0; h < 8; h++) {
            DUE.is("there " + h, x.there(h), due[h]);
        }
        DUE.is("there 8", x.there(8), -1);
        DUE.is("there -1", x.there(-1), -1);
        MoonDials y = Texts.garden("hours 24; dial a 23 0; goer p a 22 24; goer q a 22 3; goer r a 22 3; comes = 2 - which;"
            + "stays = long;");
        DUE.is("all the night", y.count(6), 0);
        DUE.is("there 22", y.there(22), 1);
        DUE.is("there 23", y.there(23), 3);
        DUE.is("there 0", y.there(0), 3);
        DUE.is("there 1", y.there(1), 3);
        DUE.is("there 2", y.there(2), 1);
    }

    private static void byHand() {
        MoonDials x = Texts.garden(GARDEN);
        DUE.is("turn", x.turn(1, 7), 2);
        DUE.is("turn", x.turn(1, 1), 3);
        DUE.is("turn 0", x.turn(1, 0), -1);
        DUE.is("turn 8", x.turn(1, 8), -1);
        DUE.is("turn dial 2", x.turn(2, 1), -1);
        DUE.is("turn dial -1", x.turn(-1, 1), -1);
        DUE.is("things done", x.count(9), 2);
        DUE.is("follow", x.follow(0, 1), true);
        DUE.is("follow again", x.follow(0, 1), false);
        DUE.is("goer's dial", x.goer(0, 0), 1);
        DUE.is("follow goer 3", x.follow(3, 0), false);
        DUE.is("follow goer -1", x.follow(-1, 0), false);
        DUE.is("follow dial 2", x.follow(0, 2), false);
        DUE.is("follow dial -1", x.follow(0, -1), false);
        DUE.is("there by it", x.there(7), 1);
        DUE.is("slip", x.slip(1, 7), true);
        DUE.is("slip again", x.slip(1, 7), false);
        DUE.is("slip 8", x.slip(1, 8), false);
        DUE.is("slip -1", x.slip(1, -1), false);
        DUE.is("slip dial 2", x.slip(2, 1), false);
        DUE.is("slip is", x.dial(1, 1), 7);
        DUE.is("slip 0", x.slip(1, 0), true);
        DUE.is("things done", x.count(9), 5);
    }

    private static void nights() {
        MoonDials x = Texts.garden(GARDEN);
        DUE.is("0 nights", x.nights(0), 0);
        DUE.is("no thing done", x.count(9), 0);
        DUE.is("201 nights", x.nights(201), -1);
        DUE.is("-1 nights", x.nights(-1), -1);
        DUE.is("a night", x.nights(1), 1);
        DUE.is("together", x.together(0, 1), 2);
        DUE.is("out", x.dial(1, 0), 5);
        DUE.is("another", x.nights(1), 2);
        DUE.is("together", x.together(1, 0), 3);
        DUE.is("together", x.together(0, 2), 1);
        DUE.is("together", x.together(1, 2), 0);
        DUE.is("met", x.goer(0, 6), 4);
        DUE.is("met", x.goer(1, 6), 3);
        DUE.is("met", x.goer(2, 6), 1);
        DUE.is("night", x.nights(0), 2);
        DUE.is("200 nights", x.nights(200), 202);
        MoonDials y = Texts.garden("dial a 0 0; goer p a 0 1; goer q a 0 1; goer r a 0 1;");
        y.nights(1);
        DUE.is("three at an hour: met", y.goer(1, 6), 1);
        DUE.is("three at an hour: pairs", y.count(4), 3);
        MoonDials first = Texts.garden("hours 5; dial a 1 2; dial b 1 3; goer p b 0 1; worth = slip * 10 + out;");
        DUE.is("a law goes by the goer's dial", first.goer(0, 5), 31);
        first.nights(1);
        DUE.is("the first dial slips", first.dial(0, 0), 3);
        DUE.is("the second dial slips", first.dial(1, 0), 4);
        DUE.is("a law goes by the goer's dial", first.goer(0, 5), 34);
        // A night goes by how it was as it began, then the next one by what has come of it.
        MoonDials z = Texts.garden("hours 4; dial a 0 0; goer p a 0 1; goer q a 0 1; comes = 2 - met;");
        z.nights(9);
        DUE.is("met ends it", z.together(0, 1), 2);
    }

    private static void eclipses() {
        // These lots were worked out apart from the program.
        MoonDials x = Texts.garden(GARDEN + "dims = 50; seed 7;");
        int[] dark = {2, 3, 2, 3, 0, 3};
        int[] out = {3, 5, 7, 1, 3, 5};
        int[][] met = {{2, 2, 0}, {4, 4, 0}, {4, 4, 0}, {5, 4, 1}, {7, 6, 1}, {7, 6, 1}};
        for (int i = 0; i < 6; i++) {
            DUE.is("eclipses of night " + i, x.count(7), dark[i]);
            DUE.is("eclipse of b", x.dial(1, 3), dark[i] >> 1);
            DUE.is("out is without", x.dial(1, 0), out[i]);
            DUE.is("shows is without", x.shows(1, 0), out[i]);
            x.nights(1);
            for (int g = 0; g < 3; g++) {
                DUE.is("met behind night " + i, x.goer(g, 6), met[i][g]);
            }
        }
        x.metIn(0, 3);
        DUE.is("eclipse of night 6", x.dial(0, 3), Model.lot(100, 7, 48) < 50 ? 1 : 0);
        DUE.is("together", x.together(0, 1), 6);
        DUE.is("together", x.together(0, 2), 1);
        // LOT 100 of seed 7 and 0 is 83, of 7 and 1 it is 13.
        DUE.is("dims 83", Texts.garden("dial a 0 0; dims = 83; seed 7;").dial(0, 3), 0);
        DUE.is("dims 84", Texts.garden("dial a 0 0; dims = 84; seed 7;").dial(0, 3), 1);
        DUE.is("dims 13", Texts.garden("dial a 0 0; dial b 0 0; dims = 13; seed 7;").dial(1, 3), 0);
        DUE.is("dims 14", Texts.garden("dial a 0 0; dial b 0 0; dims = 14; seed 7;").dial(1, 3), 1);
        DUE.is("dims of the night", nightDims(), 70);
        // The seed is 0 if none is told: LOT 100 of 0 and 0 is 16.
        DUE.is("seed 0, dims 16", Texts.garden("dial a 0 0; dims = 16;").dial(0, 3), 0);
        DUE.is("seed 0, dims above", Texts.garden("dial a 0 0; dims = 16 + 1;").dial(0, 3), 1);
        MoonDials again = Texts.garden("dial a 0 0; seed 7;");
        Texts.read(again, "dial a 0 0; dims = 16 + 1;");
        DUE.is("seed 0 again", again.dial(0, 3), 1);
        DUE.is("there is without", Texts.garden(GARDEN + "dims = 100; seed 7;").there(3), 3);
    }

    private static int nightDims() {
        MoonDials x = Texts.garden("dial a 0 0; dims = night * 10;");
        x.nights(9);
        x.undo();
        x.nights(7);
        x.metIn(0, 9);
        return x.dial(0, 2);
    }

    private static void undo() {
        MoonDials x = Texts.garden(GARDEN);
        DUE.is("nothing to undo", x.undo(), false);
        x.turn(0, 1);
        x.follow(0, 1);
        x.slip(0, 5);
        x.nights(7);
        DUE.is("4 things", x.count(9), 4);
        DUE.is("undo nights", x.undo(), true);
        DUE.is("night", x.count(3), 0);
        DUE.is("met", x.count(4), 0);
        DUE.is("out", x.dial(0, 0), 1);
        DUE.is("undo slip", x.undo(), true);
        DUE.is("slip", x.dial(0, 1), 0);
        DUE.is("undo follow", x.undo(), true);
        DUE.is("follow", x.goer(0, 0), 0);
        DUE.is("undo turn", x.undo(), true);
        DUE.is("turn", x.dial(0, 0), 0);
        DUE.is("no more", x.undo(), false);
        for (int i = 0; i < 43; i++) {
            x.nights(1);
        }
        DUE.is("40 at most", x.count(9), 40);
        for (int i = 0; i < 40; i++) {
            DUE.is("night " + i, x.count(3), 43 - i);
            DUE.is("undo " + i, x.undo(), true);
        }
        DUE.is("night 3", x.count(3), 3);
        DUE.is("undo 41", x.undo(), false);
        x.nights(2);
        DUE.is("things again", x.count(9), 1);
        DUE.is("undo again", x.undo(), true);
        DUE.is("night 3 again", x.count(3), 3);
    }
}
