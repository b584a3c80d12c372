/** The boundary cases of promises 6 to 15: how it is, what is done by hand, and nights. */
public final class NowEdgesTest {
    private static final Edges EDGES = new Edges("NowEdgesTest");
    /** 2 to the 31st, which wraps to the least int there is. */
    private static final String LEAST = "2*8*8*8*8*8*8*8*8*8*8";

    private NowEdgesTest() {
    }

    public static void main(String[] args) {
        dial();
        dims();
        eclipse();
        shows();
        goer();
        heldLaws();
        vars();
        ifs();
        arithmetic();
        dividedByZero();
        together();
        there();
        turn();
        follow();
        slip();
        nights();
        aNight();
        nightsOfTheMost();
        lawsEachNight();
        darkNights();
        undo();
        undoForty();
        EDGES.end(6, 15);
    }

    // ---- promise 6

    private static void dial() {
        EDGES.full(6, "NONE for others").asks("""
            dial(-1, 0) = NONE  dial(2, 0) = NONE  dial(3, 0) = NONE  dial(4, 0) = NONE  dial(MIN, 0) = NONE
            dial(MAX, 0) = NONE  dial(0, -1) = NONE  dial(0, 4) = NONE  dial(1, 4) = NONE  dial(1, MIN) = NONE
            dial(1, MAX) = NONE  dial(0, 3) = 0  dial(1, 0) = 0  dial(1, 1) = 5  dial(1, 2) = 50  dial(1, 3) = 1""");
        StringBuilder text = new StringBuilder("hours 8; ");
        for (int dials = 1; dials <= 4; dials++) {
            text.append("dial ").append("abcd".charAt(dials - 1)).append(" ").append(dials).append(" 7; ");
            EDGES.test(6, "of " + dials + " DIALS", text.toString()).asks("dial(" + (dials - 1) + ", 0) = " + dials
                + "  dial(" + (dials - 1) + ", 1) = 7  dial(" + dials + ", 0) = NONE  dial(" + dials + ", 1) = NONE");
        }
        EDGES.test(6, "how far it is OUT: round the night", "hours 8; dial a 7 1; dial b 1 7; dial c 0 7; dial d 7 0;")
            .asks("""
                dial(0, 0) = 7  dial(1, 0) = 1  dial(2, 0) = 0  dial(3, 0) = 7  nights(1) = 1
                dial(0, 0) = 0  dial(1, 0) = 0  dial(2, 0) = 7  dial(3, 0) = 7  nights(1) = 2
                dial(0, 0) = 1  dial(1, 0) = 7  dial(2, 0) = 6  dial(3, 0) = 7
                dial(0, 1) = 1  dial(1, 1) = 7  dial(2, 1) = 7  dial(3, 1) = 0""");
        EDGES.test(6, "how far it is OUT: 24 HOURS", "hours 24; dial a 23 23;").asks("""
            nights(1) = 1  dial(0, 0) = 22  nights(22) = 23  dial(0, 0) = 0  nights(1) = 24  dial(0, 0) = 23""");
        EDGES.test(6, "how far it is OUT: 2 HOURS", "hours 2; dial a 0 1;").asks("""
            nights(1) = 1  dial(0, 0) = 1  nights(1) = 2  dial(0, 0) = 0""");
    }

    private static void dimsOf(String law, int want) {
        EDGES.test(6, "DIMS now, held to 0 .. 100: " + law, "dial a 0 0; dims = " + law + ";").asks("dial(0, 2) = " + want);
    }

    private static void dims() {
        dimsOf("0-9999", 0);
        dimsOf("0-1", 0);
        dimsOf("0", 0);
        dimsOf("1", 1);
        dimsOf("99", 99);
        dimsOf("100", 100);
        dimsOf("101", 100);
        dimsOf("9999", 100);
        dimsOf(LEAST, 0);
        dimsOf(LEAST + "-1", 100);
        dimsOf("5/0", 0);
        dimsOf("50+from+long+met", 50);
        EDGES.test(6, "DIMS: from, long, met 0", Edges.PAIR.replace(" 0 1;", " 3 5;") + "dims = 1 + from + long + met;")
            .asks("nights(2) = 2  goer(0, 6) = 10  goer(0, 5) = 1  count(5) = 3  dial(0, 2) = 1  dial(0, 3) = 0");
        EDGES.test(6, "DIMS: which: the DIAL's number", "dial a 0 0; dial b 0 0; dial c 0 0; dial d 0 0; dims = which*9;")
            .asks("dial(0, 2) = 0  dial(1, 2) = 9  dial(2, 2) = 18  dial(3, 2) = 27");
        EDGES.test(6, "DIMS: night, out, slip, day, goers", Edges.GARDEN + "dims = night * 50 + out * 9 + slip + day - goers;")
            .asks("dial(0, 2) = 5  dial(1, 2) = 34  turn(1, 1) = 4  dial(1, 2) = 43  nights(1) = 1  dial(0, 2) = 55");
    }

    private static void eclipse(String told, String text, int night, int dial, int lot) {
        for (int dims = Math.max(0, lot - 1); dims <= Math.min(100, lot + 2); dims++) {
            int dark = lot < dims ? 1 : 0;
            Run run = EDGES.test(6, "an ECLIPSE: LOT less than DIMS: " + told + ", " + dims, text + "dims = " + dims + ";");
            if (night > 0) {
                run.asks("nights(" + night + ") = " + night);
            }
            run.asks("dial(" + dial + ", 3) = " + dark);
        }
    }

    /** The lots were worked out apart from the program. */
    private static void eclipse() {
        eclipse("LOT 0", "dial a 0 0; seed 37;", 0, 0, 0);
        eclipse("LOT 99", "dial a 0 0; seed 96;", 0, 0, 99);
        eclipse("seed 0", "dial a 0 0;", 0, 0, 16);
        eclipse("seed 7", "dial a 0 0; dial b 0 0; seed 7;", 0, 0, 83);
        eclipse("seed 7, dial 1", "dial a 0 0; dial b 0 0; seed 7;", 0, 1, 13);
        eclipse("seed 7, dial 3", "dial a 0 0; dial b 0 0; dial c 0 0; dial d 0 0; seed 7;", 0, 3, 30);
        eclipse("seed 7, night 1", "dial a 0 0; dial b 0 0; seed 7;", 1, 0, 17);
        eclipse("seed 7, night 1, dial 1", "dial a 0 0; dial b 0 0; seed 7;", 1, 1, 36);
        eclipse("seed 7, night 3, dial 1", "dial a 0 0; dial b 0 0; seed 7;", 3, 1, 1);
        eclipse("seed 9999", "dial a 0 0; seed 9999;", 0, 0, 39);
        MoonDials never = Texts.garden("dial a 0 0; dims = 0; seed 37;");
        MoonDials always = Texts.garden("dial a 0 0; dims = 100; seed 96;");
        EDGES.test(6, "an ECLIPSE: never by 0, always by 100");
        for (int night = 0; night < 200; night++) {
            EDGES.is("dial(0, 3) in night " + never.count(3), never.dial(0, 3), 0);
            EDGES.is("dial(0, 3) in night " + always.count(3), always.dial(0, 3), 1);
            never.nights(1);
            always.nights(1);
        }
    }

    // ---- promise 7

    private static void shows() {
        EDGES.test(7, "the rest by HOURS of the hour and how far it is OUT", Edges.GARDEN).asks("""
            shows(0, 0) = 0  shows(0, 7) = 7  shows(1, 0) = 3  shows(1, 3) = 6  shows(1, 4) = 7  shows(1, 5) = 0
            shows(1, 6) = 1  shows(1, 7) = 2""");
        EDGES.test(7, "24 HOURS", "hours 24; dial a 23 0;").asks("""
            shows(0, 0) = 23  shows(0, 1) = 0  shows(0, 23) = 22  shows(0, 24) = NONE  shows(0, -1) = NONE""");
        EDGES.test(7, "2 HOURS", "hours 2; dial a 1 0;").asks("""
            shows(0, 0) = 1  shows(0, 1) = 0  shows(0, 2) = NONE  shows(0, -1) = NONE""");
        EDGES.full(7, "NONE: no such ones").asks("""
            shows(-1, 0) = NONE  shows(2, 0) = NONE  shows(MIN, 0) = NONE  shows(MAX, 0) = NONE  shows(0, -1) = NONE
            shows(0, 8) = NONE  shows(1, 8) = NONE  shows(1, MIN) = NONE  shows(1, MAX) = NONE  shows(2, 8) = NONE""");
        EDGES.test(7, "no ECLIPSE looked at", Edges.GARDEN + "dims = 100; seed 7;").asks("""
            dial(0, 3) = 1  dial(1, 3) = 1  shows(0, 0) = 0  shows(1, 0) = 3""");
    }

    // ---- promise 8

    private static void goer() {
        EDGES.full(8, "NONE for others").asks("""
            goer(-1, 0) = NONE  goer(3, 0) = NONE  goer(4, 0) = NONE  goer(5, 0) = NONE  goer(MIN, 0) = NONE
            goer(MAX, 0) = NONE  goer(0, -1) = NONE  goer(0, 7) = NONE  goer(2, 7) = NONE  goer(2, MIN) = NONE
            goer(2, MAX) = NONE  goer(3, 7) = NONE  goer(2, 0) = 0  goer(2, 6) = 0""");
        StringBuilder text = new StringBuilder("hours 8; dial a 0 0; dial b 0 0;");
        for (int goers = 1; goers <= 5; goers++) {
            text.append("goer ").append("pqrst".charAt(goers - 1)).append(" b ").append(goers).append(" 24; ");
            EDGES.test(8, "of " + goers + " GOERS", text.toString()).asks("goer(" + (goers - 1) + ", 0) = 1  goer("
                + (goers - 1) + ", 1) = " + goers + "  goer(" + (goers - 1) + ", 2) = 24  goer(" + (goers - 1)
                + ", 3) = 1  goer(" + (goers - 1) + ", 4) = 8  goer(" + goers + ", 0) = NONE  goer(" + goers + ", 6) = NONE");
        }
        EDGES.test(8, "at how many hours together with others: with one or more: 1 for the hour",
            "hours 8; dial a 0 0; goer p a 0 3; goer q a 0 2; goer r a 0 1; goer s a 5 1;").asks("""
                goer(0, 6) = 0  nights(1) = 1  goer(0, 6) = 2  goer(1, 6) = 2  goer(2, 6) = 1  goer(3, 6) = 0
                count(4) = 4  nights(200) = 201  goer(0, 6) = 402  goer(3, 6) = 0""");
    }

    private static final String[][] HELD = {{"0-9999", "0", "0", "0"}, {"0-1", "0", "0", "0"}, {"0", "0", "0", "0"},
        {"1", "1", "1", "1"}, {"7", "1", "7", "7"}, {"8", "1", "8", "8"}, {"9", "1", "8", "9"}, {"98", "1", "8", "98"},
        {"99", "1", "8", "99"}, {"100", "1", "8", "99"}, {"9999", "1", "8", "99"}, {LEAST, "0", "0", "0"},
        {LEAST + "-1", "1", "8", "99"}};

    private static void heldLaws() {
        for (String[] row : HELD) {
            EDGES.test(8, "COMES more than 0, STAYS held to 0 .. HOURS, WORTH held to 0 .. 99: " + row[0], Edges.APART
                + "comes = " + row[0] + "; stays = " + row[0] + "; worth = " + row[0] + ";")
                .asks("goer(1, 3) = " + row[1] + "  goer(1, 4) = " + row[2] + "  goer(1, 5) = " + row[3]);
        }
        EDGES.test(8, "STAYS held to HOURS: 2", "hours 2; dial a 0 0; goer p a 0 24;")
            .asks("goer(0, 4) = 2  goer(0, 2) = 24");
        EDGES.test(8, "STAYS held to HOURS: 24", "hours 24; dial a 0 0; goer p a 0 24; goer q a 0 23; stays = long + 1;")
            .asks("goer(0, 4) = 24  goer(1, 4) = 24");
        EDGES.test(8, "STAYS of who does not come", Edges.APART + "comes = 0;").asks("goer(0, 3) = 0  goer(0, 4) = 1");
    }

    private static void vars() {
        String text = "hours 8; dial a 5 3; dial b 1 7; goer p a 6 2; goer q b 9 24; worth = ";
        String[][] rows = {{"night", "0", "0"}, {"out", "5", "1"}, {"slip", "3", "7"}, {"from", "6", "1"},
            {"long", "2", "24"}, {"met", "0", "0"}, {"which", "0", "1"}, {"day", "8", "8"}, {"goers", "2", "2"}};
        for (String[] row : rows) {
            EDGES.test(8, "LAWS of a GOER: " + row[0], text + row[0] + ";")
                .asks("goer(0, 5) = " + row[1] + "  goer(1, 5) = " + row[2]);
        }
        EDGES.test(8, "LAWS of a GOER: out and slip as they are now", text + "out * 10 + slip;").asks("""
            goer(0, 5) = 53  turn(0, 3) = 0  goer(0, 5) = 3  slip(0, 7) = true  goer(0, 5) = 7
            follow(0, 1) = true  goer(0, 5) = 17  nights(1) = 1  goer(0, 5) = 7""");
        EDGES.test(8, "LAWS of a GOER: night and met so far", Edges.PAIR + "worth = night * 10 + met;").asks("""
            nights(1) = 1  goer(0, 5) = 11  nights(2) = 3  goer(1, 5) = 33  nights(200) = 203  goer(1, 5) = 99""");
    }

    private static void worth(String sentence, String law, int want) {
        EDGES.test(8, sentence + ": " + law, Edges.APART + "worth = " + law + ";").asks("goer(0, 5) = " + want);
    }

    private static void ifs() {
        String first = "the E of the first if that holds";
        worth(first, "if 1 < 2 then 3 else 4", 3);
        worth(first, "if 2 < 2 then 3 else 4", 4);
        worth(first, "if 3 < 2 then 3 else 4", 4);
        worth(first, "if 0 - 1 < 0 then 3 else 4", 3);
        worth(first, "if 0 < 0 - 1 then 3 else 4", 4);
        worth(first, "if " + LEAST + " < " + LEAST + " - 1 then 3 else 4", 3);
        worth(first, "if " + LEAST + " - 1 < " + LEAST + " then 3 else 4", 4);
        worth(first, "if 1 < 2 then 3 else if 1 < 2 then 4 else 5", 3);
        String no = "if 1 < 1 then 8 else ";
        worth("else the last one", no.repeat(4) + "5", 5);
        worth(first, no.repeat(3) + "if 0 < 1 then 6 else 5", 6);
        worth(first, "if 1 + 1 < 3 then 3 + 3 else 4 + 4", 6);
        worth(first, "if 1 + 1 < 2 then 3 + 3 else 4 + 4", 8);
    }

    private static void arithmetic() {
        String wraps = "ints of 32 bits that wrap";
        worth(wraps, "if " + LEAST + " < 0 then 3 else 4", 3);
        worth(wraps, "if " + LEAST + " - 1 < 0 then 3 else 4", 4);
        worth(wraps, "if " + LEAST + " - 1 + 1 < 0 then 3 else 4", 3);
        worth(wraps, LEAST + " * 2 + 5", 5);
        worth(wraps, LEAST + " + " + LEAST + " + 6", 6);
        worth(wraps, "if (" + LEAST + ") / (0 - 1) < 0 then 3 else 4", 3);
        worth(wraps, "if 9999 * 9999 * 9999 < 0 then 3 else 4", 3);
        String rounded = "/ rounded towards 0";
        worth(rounded, "50 + 7 / 2", 53);
        worth(rounded, "50 + (0 - 7) / 2", 47);
        worth(rounded, "50 + 7 / (0 - 2)", 47);
        worth(rounded, "50 + (0 - 7) / (0 - 2)", 53);
        worth(rounded, "50 + 1 / 2", 50);
        worth(rounded, "50 + (0 - 1) / 2", 50);
        worth(rounded, "50 + 1 / (0 - 2)", 50);
        worth(rounded, "50 + (0 - 8) / 2", 46);
        worth(rounded, "50 + 0 / 7", 50);
        String binds = "PARTS ahead of sums, from the left on";
        worth(binds, "9 - 3 - 2", 4);
        worth(binds, "9 - (3 - 2)", 8);
        worth(binds, "2 + 3 * 4", 14);
        worth(binds, "2 * 3 + 4", 10);
        worth(binds, "9 - 2 * 3", 3);
        worth(binds, "9 - 6 / 3", 7);
        worth(binds, "1 + 6 / 3", 3);
        worth(binds, "6 / 3 - 1", 1);
        worth(binds, "2 * 3 - 8 / 4", 4);
        worth(binds, "40 / 4 / 2", 5);
        worth(binds, "40 / (4 / 2)", 20);
        worth(binds, "7 / 2 * 2", 6);
        worth(binds, "7 * 2 / 4", 3);
        worth("six ( within one another", "1+2*(1+2*(1+2*(1+2*(1+2*(1+2*(1)/2)))))", 95);
    }

    private static void dividedByZero() {
        String by = "a LAW in which something that is looked at is divided by 0 is 0";
        worth(by, "5 + 1 / 1", 6);
        worth(by, "5 + 1 / 0", 0);
        worth(by, "5 + 0 / 0", 0);
        worth(by, "1 / 0 + 5", 0);
        worth(by, "5 + 0 * (1 / 0)", 0);
        worth(by, "5 + 9 / (1 / 2)", 0);
        worth(by, "5 + 9 / met", 0);
        worth(by, "if 1 / 0 < 1 then 5 else 6", 0);
        worth(by, "if 1 < 1 / 0 then 5 else 6", 0);
        worth(by, "if 0 < 1 then 5 / 0 else 6", 0);
        worth(by, "if 1 < 1 then 5 else 6 / 0", 0);
        worth(by, "if 1 < 1 then 5 else if 1 / 0 < 1 then 6 else 7", 0);
        String not = "what is not looked at may be divided by 0";
        worth(not, "if 0 < 1 then 5 else 6 / 0", 5);
        worth(not, "if 1 < 1 then 5 / 0 else 6", 6);
        worth(not, "if 0 < 1 then 5 else if 1 / 0 < 1 then 6 else 7", 5);
        EDGES.test(8, by + ": COMES, STAYS", Edges.PAIR + "comes = 1 + 1 / night; stays = 5 / night;").asks("""
            goer(0, 3) = 0  goer(0, 4) = 0  count(5) = 0  there(0) = 0  nights(1) = 1  count(4) = 0
            goer(0, 3) = 1  goer(0, 4) = 5  count(5) = 3  there(4) = 3  there(5) = 0""");
    }

    // ---- promise 9

    private static void together() {
        EDGES.full(9, "NONE: no such ones, one and the same").asks("""
            together(-1, 0) = NONE  together(0, -1) = NONE  together(3, 0) = NONE  together(0, 3) = NONE
            together(MIN, 0) = NONE  together(0, MAX) = NONE  together(0, 0) = NONE  together(2, 2) = NONE
            together(3, 3) = NONE  together(-1, -1) = NONE  together(0, 1) = 4  together(1, 0) = 4  together(1, 2) = 0""");
        EDGES.test(9, "so far", Edges.PAIR).asks("""
            together(0, 1) = 0  together(1, 0) = 0  together(0, 2) = NONE  nights(1) = 1  together(0, 1) = 1
            together(1, 0) = 1  nights(200) = 201  together(0, 1) = 201  undo() = true  together(1, 0) = 1""");
        EDGES.test(9, "of five", "hours 2; dial a 0 0; goer p a 0 1; goer q a 0 1; goer r a 0 1; goer s a 1 1; goer t a 1 2;")
            .asks("""
                nights(1) = 1  together(0, 1) = 1  together(1, 2) = 1  together(0, 2) = 1  together(3, 4) = 1
                together(4, 3) = 1  together(0, 4) = 1  together(4, 2) = 1  together(0, 3) = 0  together(2, 3) = 0
                together(4, 5) = NONE  together(5, 4) = NONE""");
    }

    // ---- promise 10

    private static void thereAt(String told, String text, int... want) {
        StringBuilder rows = new StringBuilder("there(-1) = NONE  there(" + want.length + ") = NONE");
        for (int hour = 0; hour < want.length; hour++) {
            rows.append("  there(").append(hour).append(") = ").append(want[hour]);
        }
        EDGES.test(10, told, text).asks(rows.toString());
    }

    private static void there() {
        EDGES.full(10, "NONE: no such hour").asks("""
            there(-1) = NONE  there(8) = NONE  there(9) = NONE  there(23) = NONE  there(MIN) = NONE  there(MAX) = NONE
            there(0) = 0  there(7) = 2""");
        String from = "what their DIAL SHOWS, less FROM (HOURS more, if that is below 0), is less than STAYS";
        thereAt(from, Edges.GARDEN, 0, 0, 1, 3, 3, 0, 4, 0);
        thereAt(from, "hours 4; dial a 3 0; goer p a 2 2; goer q a 3 1; goer r a 0 3;", 3, 4, 4, 5);
        String stays = "hours 4; dial a 0 0; goer p a 3 1; stays = ";
        thereAt("STAYS 0", stays + "0;", 0, 0, 0, 0);
        thereAt("STAYS 1", stays + "1;", 0, 0, 0, 1);
        thereAt("STAYS 2", stays + "2;", 1, 0, 0, 1);
        thereAt("STAYS 3", stays + "3;", 1, 1, 0, 1);
        thereAt("STAYS 4", stays + "4;", 1, 1, 1, 1);
        thereAt("STAYS 5", stays + "5;", 1, 1, 1, 1);
        thereAt("if they come", stays + "4; comes = 0;", 0, 0, 0, 0);
        thereAt("if they come", Edges.PAIR + "comes = which;", 2, 0, 0, 0, 0, 0, 0, 0);
        thereAt("2 HOURS", "hours 2; dial a 1 0; goer p a 0 1; goer q a 1 1; goer r a 1 2;", 6, 5);
        thereAt("24 HOURS", "hours 24; dial a 23 0; goer p a 23 24; goer q a 23 23; goer r a 22 1; goer s a 21 2; goer t a 0 1;",
            3, 19, 3, 3, 3, 3, 3, 3, 3, 3, 3, 3, 3, 3, 3, 3, 3, 3, 3, 3, 3, 3, 11, 13);
        thereAt("no ECLIPSE looked at", Edges.GARDEN + "dims = 100; seed 7;", 0, 0, 1, 3, 3, 0, 4, 0);
        EDGES.test(10, "of this night", Edges.GARDEN).asks("""
            nights(1) = 1  there(1) = 2  there(2) = 3  there(3) = 1  there(4) = 5  there(6) = 0""");
    }

    // ---- promises 11 to 13

    private static void turn() {
        EDGES.test(11, "turned on by k hours (1 .. HOURS less 1)", "hours 8; dial a 0 0;").asks("""
            turn(0, 0) = NONE  turn(0, 1) = 1  turn(0, 6) = 7  turn(0, 1) = 0  turn(0, 7) = 7  turn(0, 7) = 6
            turn(0, 8) = NONE  turn(0, 9) = NONE  turn(0, -1) = NONE  dial(0, 0) = 6  dial(0, 1) = 0  count(9) = 5""");
        EDGES.test(11, "2 HOURS", "hours 2; dial a 0 0;").asks("""
            turn(0, 0) = NONE  turn(0, 1) = 1  turn(0, 2) = NONE  turn(0, 1) = 0  turn(0, 3) = NONE""");
        EDGES.test(11, "24 HOURS", "hours 24; dial a 0 0; dial b 1 0; dial c 0 0; dial d 23 0;").asks("""
            turn(0, 23) = 23  turn(0, 24) = NONE  turn(1, 23) = 0  turn(3, 1) = 0  turn(4, 1) = NONE  dial(2, 0) = 0""");
        EDGES.full(11, "NONE, and nothing happens: no such ones").asks("""
            turn(-1, 1) = NONE  turn(2, 1) = NONE  turn(MIN, 1) = NONE  turn(MAX, 1) = NONE  turn(0, 0) = NONE
            turn(1, 8) = NONE  turn(1, -1) = NONE  turn(1, MIN) = NONE  turn(1, MAX) = NONE  turn(2, 8) = NONE
            count(9) = 4""");
    }

    private static void follow() {
        EDGES.test(12, "a GOER goes by another DIAL", Edges.GARDEN).asks("""
            follow(0, 0) = false  follow(0, 1) = true  follow(0, 1) = false  goer(0, 0) = 1  there(7) = 1
            follow(0, 0) = true  goer(0, 0) = 0  goer(1, 0) = 1  goer(2, 0) = 1  count(9) = 2""");
        EDGES.test(12, "the last ones", "dial a 0 0; dial b 0 0; dial c 0 0; dial d 0 0; goer p a 0 1; goer q a 0 1;"
            + "goer r a 0 1; goer s a 0 1; goer t a 0 1;").asks("""
            follow(4, 3) = true  follow(5, 3) = false  follow(4, 4) = false  goer(4, 0) = 3  goer(3, 0) = 0
            count(15) = 6""");
        EDGES.full(12, "false, and nothing happens: by that already, no such ones").asks("""
            follow(0, 0) = false  follow(1, 1) = false  follow(2, 0) = false  follow(-1, 0) = false
            follow(3, 0) = false  follow(3, 1) = false  follow(MIN, 0) = false  follow(MAX, 0) = false
            follow(0, -1) = false  follow(0, 2) = false  follow(0, MIN) = false  follow(0, MAX) = false
            follow(3, 2) = false  count(9) = 4""");
    }

    private static void slip() {
        EDGES.test(13, "a DIAL's SLIP is set (0 .. HOURS less 1)", "hours 8; dial a 3 1;").asks("""
            slip(0, 1) = false  slip(0, 0) = true  slip(0, 0) = false  slip(0, 7) = true  slip(0, 8) = false
            slip(0, -1) = false  dial(0, 1) = 7  dial(0, 0) = 3  count(9) = 2  nights(1) = 1  dial(0, 0) = 2""");
        EDGES.test(13, "2 HOURS", "hours 2; dial a 0 0;").asks("""
            slip(0, 0) = false  slip(0, 1) = true  slip(0, 2) = false  slip(0, 1) = false""");
        EDGES.test(13, "24 HOURS", "hours 24; dial a 0 0; dial b 0 0; dial c 0 0; dial d 0 23;").asks("""
            slip(0, 23) = true  slip(0, 24) = false  slip(3, 23) = false  slip(3, 22) = true  slip(4, 1) = false
            dial(1, 1) = 0""");
        EDGES.full(13, "false, and nothing happens: it is so, no such ones").asks("""
            slip(0, 0) = false  slip(1, 5) = false  slip(-1, 1) = false  slip(2, 1) = false  slip(MIN, 1) = false
            slip(MAX, 1) = false  slip(1, -1) = false  slip(1, 8) = false  slip(1, MIN) = false  slip(1, MAX) = false
            slip(1, 13) = false  count(9) = 4""");
    }

    // ---- promise 14

    private static void nights() {
        EDGES.test(14, "n NIGHTS (0 .. 200) go by: which it is", Edges.PAIR).asks("""
            nights(0) = 0  nights(1) = 1  nights(2) = 3  nights(200) = 203  nights(199) = 402  nights(0) = 402
            count(3) = 402  together(0, 1) = 402""");
        EDGES.test(14, "0 is no thing done", Edges.PAIR).asks("""
            nights(0) = 0  count(9) = 0  undo() = false  nights(3) = 3  nights(0) = 3  count(9) = 1  undo() = true
            count(3) = 0""");
        EDGES.full(14, "NONE, and nothing happens: no such n").asks("""
            nights(-1) = NONE  nights(201) = NONE  nights(202) = NONE  nights(MIN) = NONE  nights(MAX) = NONE
            nights(0) = 2  count(9) = 4""");
        EDGES.test(14, "without DIALS and GOERS")
            .asks("nights(200) = 200  nights(1) = 201  count(4) = 0  undo() = true");
        EDGES.test(14, "200 at once are as 200 one behind the other");
        String text = Edges.GARDEN + "comes = 5 - (met + which) / 7; stays = long + night - night / 3 * 3; dims = 40; seed 3;";
        MoonDials atOnce = Texts.garden(text);
        MoonDials oneByOne = Texts.garden(text);
        atOnce.nights(200);
        for (int i = 1; i <= 200; i++) {
            EDGES.is("nights(1)", oneByOne.nights(1), i);
        }
        for (int what : new int[] {3, 4, 5, 6, 7, 12, 13, 14, 16}) {
            EDGES.is("count(" + what + ")", atOnce.count(what), oneByOne.count(what));
        }
        for (int g = 0; g < 3; g++) {
            EDGES.is("goer(" + g + ", 6)", atOnce.goer(g, 6), oneByOne.goer(g, 6));
        }
        EDGES.is("count(9) at once", atOnce.count(9), 1);
        EDGES.is("count(9) one by one", oneByOne.count(9), 40);
    }

    private static void aNight() {
        EDGES.test(14, "all by how it was as it began", Edges.PAIR.replace(" 0 1;", " 0 3;") + "comes = 2 - met;").asks("""
            nights(1) = 1  together(0, 1) = 3  count(5) = 0  nights(5) = 6  together(0, 1) = 3""");
        EDGES.test(14, "any two GOERS who are THERE both", "hours 2; dial a 0 0; goer p a 0 1; goer q a 0 1; goer r a 0 1;"
            + "goer s a 0 1; goer t a 0 1;").asks("""
            nights(1) = 1  count(4) = 10  count(14) = 10  goer(0, 6) = 1  goer(4, 6) = 1""");
        EDGES.test(14, "at each hour", "hours 24; dial a 5 7; goer p a 3 24; goer q a 9 24;").asks("""
            nights(200) = 200  together(0, 1) = 4800  goer(0, 6) = 4800""");
        EDGES.test(14, "nobody else is THERE", Edges.APART).asks("nights(200) = 200  count(4) = 0  count(16) = 3");
        EDGES.test(14, "then each DIAL is OUT by SLIP more", "hours 3; dial a 0 1; dial b 0 0; goer p a 0 1; goer q b 0 1;")
            .asks("""
                nights(1) = 1  together(0, 1) = 1  dial(0, 0) = 1  nights(2) = 3  together(0, 1) = 1  dial(0, 0) = 0
                nights(1) = 4  together(0, 1) = 2""");
    }

    private static void nightsOfTheMost() {
        EDGES.test(14, "NIGHTS change nothing but OUT and who met: as many DIALS and GOERS as can be",
            "hours 8; dial a 0 1; dial b 0 2; dial c 0 3; dial d 0 4; goer p d 1 2; goer q c 2 3; goer r b 3 4; goer s a 4 5;"
            + "goer t d 5 6;").asks("""
            nights(1) = 1  dial(0, 0) = 1  dial(1, 0) = 2  dial(2, 0) = 3  dial(3, 0) = 4  nights(2) = 3
            dial(0, 0) = 3  dial(1, 0) = 6  dial(2, 0) = 1  dial(3, 0) = 4
            dial(0, 1) = 1  dial(1, 1) = 2  dial(2, 1) = 3  dial(3, 1) = 4
            goer(0, 0) = 3  goer(1, 0) = 2  goer(2, 0) = 1  goer(3, 0) = 0  goer(4, 0) = 3
            goer(0, 1) = 1  goer(4, 1) = 5  goer(0, 2) = 2  goer(4, 2) = 6  round() = 8""");
    }

    private static void lawsEachNight() {
        String[] comes = {"comes = 3 - night;", "comes = 3 - out;", "comes = 3 - met;"};
        for (String law : comes) {
            for (String stays : new String[] {"", "stays = 1;", "stays = long;"}) {
                String text = Edges.PAIR.replace("a 0 0", "a 0 1");
                EDGES.test(14, "LAWS are looked at in each NIGHT: " + law + stays, text + law + stays)
                    .asks("often(0, 1, 7) = 3  nights(7) = 7  count(4) = 3");
                EDGES.test(14, "LAWS are looked at in each NIGHT: " + stays + law, text + stays + law)
                    .asks("often(0, 1, 7) = 3  nights(7) = 7  count(4) = 3");
            }
        }
        // 0, 1 and 2 hours, then 3.
        for (String law : new String[] {"stays = night;", "stays = out;"}) {
            for (String other : new String[] {"", "comes = 1;", "comes = goers;"}) {
                String text = Edges.PAIR.replace("a 0 0", "a 0 1");
                EDGES.test(14, "LAWS are looked at in each NIGHT: " + law + other, text + law + other)
                    .asks("often(0, 1, 4) = 6  nights(4) = 4  count(4) = 6");
                EDGES.test(14, "LAWS are looked at in each NIGHT: " + other + law, text + other + law)
                    .asks("often(0, 1, 4) = 6  nights(4) = 4  count(4) = 6");
            }
        }
        EDGES.test(14, "LAWS are looked at in each NIGHT: met", Edges.PAIR + "stays = met + 1; comes = 1;")
            .asks("often(0, 1, 3) = 7  nights(3) = 3  count(4) = 7");
    }

    private static void darkNights() {
        // By seed 7 and DIMS 50: in night 0 b shows as if OUT by 4, in night 1 a as by 6 and b as by 2, in night 2 b as
        // by 1, in night 3 a as by 1 and b as by 7, in night 4 there is no eclipse.
        EDGES.test(14, "with ECLIPSES", Edges.GARDEN + "dims = 50; seed 7;").asks("""
            count(7) = 2  nights(1) = 1  together(0, 1) = 2  together(0, 2) = 0
            count(7) = 3  nights(1) = 2  together(0, 1) = 4  together(0, 2) = 0
            count(7) = 2  nights(1) = 3  together(0, 1) = 4  together(0, 2) = 0
            count(7) = 3  nights(1) = 4  together(0, 1) = 4  together(0, 2) = 1
            count(7) = 0  nights(1) = 5  together(0, 1) = 6  together(0, 2) = 1""");
        EDGES.test(14, "LAWS, and all that tells how far it is OUT, go by how it is without",
            Edges.GARDEN + "dims = 100; comes = if out < 4 then 1 else 0; seed 7;").asks("""
            dial(0, 0) = 0  dial(1, 0) = 3  count(12) = 1  outIn(0, 1) = 0  outIn(1, 1) = 5  count(5) = 7
            nights(1) = 1  dial(0, 0) = 0  dial(1, 0) = 5  count(5) = 1  shows(1, 0) = 5  right(0) = 0""");
    }

    // ---- promise 15

    private static void undo() {
        EDGES.test(15, "false: there is none").asks("undo() = false");
        EDGES.test(15, "false: there is none, behind a text", Edges.PAIR).asks("undo() = false  undo() = false");
        EDGES.test(15, "the last thing done (turn, follow, slip, nights) is undone", Edges.GARDEN).asks("""
            turn(1, 7) = 2  follow(0, 1) = true  slip(1, 0) = true  nights(3) = 3  count(9) = 4
            undo() = true  count(3) = 0  count(4) = 0  goer(0, 6) = 0  dial(1, 1) = 0  count(9) = 3
            undo() = true  dial(1, 1) = 2  goer(0, 0) = 1  count(9) = 2
            undo() = true  goer(0, 0) = 0  dial(1, 0) = 2  count(9) = 1
            undo() = true  dial(1, 0) = 3  count(9) = 0  undo() = false""");
        EDGES.test(15, "no other thing is undone", Edges.GARDEN).asks("""
            turn(0, 1) = 1  hold(1) = true  tell(0, 0, true) = 0""").reads("hours 1;", 5, 6).feeds("hours").asks("""
            count(9) = 1  undo() = true  dial(0, 0) = 0  count(10) = 1  count(11) = 1  count(8) = 5  place() = 6
            undo() = false""");
        EDGES.test(15, "what is refused is no thing done", Edges.GARDEN).asks("""
            nights(1) = 1  turn(0, 8) = NONE  follow(0, 0) = false  slip(0, 0) = false  nights(201) = NONE
            nights(0) = 1  undo() = true  count(3) = 0  undo() = false""");
        EDGES.test(15, "undone, then other things are done", Edges.PAIR).asks("""
            nights(1) = 1  nights(1) = 2  undo() = true  turn(0, 3) = 3  count(9) = 2  undo() = true  dial(0, 0) = 0
            count(3) = 1  undo() = true  count(3) = 0  undo() = false""");
    }

    private static void undoForty() {
        for (int things : new int[] {39, 40, 41, 42, 80, 81}) {
            Run run = EDGES.test(15, "the last 40 can be: of " + things, Edges.PAIR);
            for (int i = 1; i <= things; i++) {
                run.asks("nights(1) = " + i);
            }
            int left = Math.min(40, things);
            run.asks("count(9) = " + left);
            for (int i = 1; i <= left; i++) {
                run.asks("undo() = true");
            }
            run.asks("count(9) = 0  undo() = false  undo() = false  count(3) = " + (things - left)
                + "  together(0, 1) = " + (things - left) + "  turn(0, 2) = 2  count(9) = 1  undo() = true  dial(0, 0) = 0");
        }
    }
}
