/**
 * The boundary cases of promises 16 to 35: what would be.
 *
 * <p>In the full garden of {@link Edges#full} p is there at 2, 3 and 4, r at 1, q at 6 and 7; then q at 1 and 2.
 */
public final class WouldBeEdgesTest {
    private static final Edges EDGES = new Edges("WouldBeEdgesTest");
    private static final String FIVE_ALIKE =
        "hours 8; dial a 0 0; goer p a 0 1; goer q a 0 1; goer r a 0 1; goer s a 0 1; goer t a 0 1;";
    private static final String FIVE_APART =
        "hours 8; dial a 0 0; goer p a 0 1; goer q a 1 1; goer r a 2 1; goer s a 3 1; goer t a 4 1;";
    private static final String ALL_DAY = "hours 24; dial a 5 7; goer p a 3 24; goer q a 9 24;";
    private static final String ONE = "hours 8; dial a 0 0; goer p a 0 1;";

    private WouldBeEdgesTest() {
    }

    public static void main(String[] args) {
        meet();
        meetBehind();
        often();
        alone();
        earns();
        right();
        agree();
        round();
        turns();
        parts();
        knot();
        mend();
        sooner();
        strangers();
        by();
        peace();
        favourite();
        longest();
        couples();
        couplesAlike();
        fullest();
        game();
        gameMoves();
        EDGES.end(16, 35);
    }

    /** Both are there at hour 0 from a night on, and never before. */
    private static String from(int night) {
        return Edges.PAIR + "comes = night + 1 - " + night + ";";
    }

    /** One is there at hour 0 by dial a, the other at an hour by dial b, both of which never slip; nobody goes by c. */
    private static String byTwo(int hour) {
        return "hours 8; dial a 0 0; dial b 0 0; dial c 0 0; goer p a 0 1; goer q b " + hour + " 1;";
    }

    // ---- promise 16

    private static void meet() {
        EDGES.full(16, "NONE: fewer than two, one that is not there, for others").asks("""
            meet(0, 0) = NONE  meet(1, 0) = NONE  meet(2, 0) = NONE  meet(4, 0) = NONE  meet(8, 0) = NONE
            meet(9, 0) = NONE  meet(11, 0) = NONE  meet(15, 0) = NONE  meet(19, 0) = NONE  meet(35, 0) = NONE
            meet(-1, 0) = NONE  meet(-2147483645, 0) = NONE  meet(MIN, 0) = NONE  meet(MAX, 0) = NONE
            meet(3, -1) = NONE  meet(3, 3) = NONE  meet(3, MIN) = NONE  meet(3, MAX) = NONE  meet(5, 3) = NONE
            meet(3, 0) = 1  meet(3, 1) = 2  meet(3, 2) = 1  meet(6, 0) = 1  meet(6, 1) = 1  meet(6, 2) = 1
            meet(5, 0) = -2  meet(5, 1) = -2  meet(5, 2) = -2  meet(7, 0) = -2""");
        EDGES.test(16, "of five GOERS", FIVE_ALIKE).asks("""
            meet(31, 0) = 0  meet(17, 0) = 0  meet(24, 0) = 0  meet(16, 0) = NONE  meet(32, 0) = NONE
            meet(33, 0) = NONE  meet(48, 0) = NONE  meet(63, 0) = NONE  meet(96, 0) = NONE""");
        EDGES.test(16, "of two GOERS", Edges.PAIR).asks("""
            meet(3, 0) = 0  meet(2, 0) = NONE  meet(5, 0) = NONE  meet(6, 0) = NONE  meet(7, 0) = NONE""");
        EDGES.test(16, "of one GOER", ONE).asks("meet(1, 0) = NONE  meet(3, 0) = NONE  meet(0, 0) = NONE");
        EDGES.test(16, "which hour first: the first one, how many hours: all", "hours 8; dial a 3 1; goer p a 3 24; goer q a 0 8;")
            .asks("meet(3, 0) = 0  meet(3, 1) = 0  meet(3, 2) = 8");
        EDGES.test(16, "which hour first: the last one", "hours 24; dial a 0 0; goer p a 23 1; goer q a 23 1;")
            .asks("meet(3, 0) = 0  meet(3, 1) = 23  meet(3, 2) = 1");
        EDGES.test(16, "which hour first: round the night", "hours 8; dial a 0 0; goer p a 7 2; goer q a 7 3;")
            .asks("meet(3, 1) = 0  meet(3, 2) = 2");
        EDGES.test(16, "all of S at one hour", "hours 3; dial a 0 0; goer p a 0 2; goer q a 1 2; goer r a 2 2;").asks("""
            meet(3, 1) = 1  meet(6, 1) = 2  meet(5, 1) = 0  meet(7, 0) = -2  meet(7, 1) = -2  meet(7, 2) = -2""");
    }

    private static void meetBehind() {
        EDGES.test(16, "behind how many NIGHTS (0 .. 400): 0", from(0)).asks("meet(3, 0) = 0");
        EDGES.test(16, "behind 1", from(1)).asks("meet(3, 0) = 1  meet(3, 1) = 0  meet(3, 2) = 1");
        EDGES.test(16, "behind 399", from(399)).asks("meet(3, 0) = 399");
        EDGES.test(16, "behind 400", from(400)).asks("meet(3, 0) = 400  meet(3, 1) = 0  meet(3, 2) = 1");
        EDGES.test(16, "-2: not, behind 401", from(401)).asks("""
            meet(3, 0) = -2  meet(3, 1) = -2  meet(3, 2) = -2  nights(1) = 1  meet(3, 0) = 400  meet(3, 1) = 0""");
        EDGES.test(16, "NIGHTS go by, in which they are together",
            "hours 8; dial a 0 0; goer p a 0 1; goer q a 0 1; goer r a 3 1; stays = 1 + met;").asks("""
                meet(5, 0) = 2  meet(5, 1) = 3  meet(5, 2) = 1  goer(0, 6) = 0""");
        EDGES.test(16, "no ECLIPSES", Edges.PAIR + "dial b 0 0; dims = 100; seed 7;").asks("""
            follow(1, 1) = true  dial(0, 3) = 1  meet(3, 0) = 0  meet(3, 1) = 0""");
    }

    // ---- promises 17 to 19

    private static void often() {
        EDGES.full(17, "NONE: no such ones, one and the same").asks("""
            often(-1, 0, 1) = NONE  often(0, -1, 1) = NONE  often(3, 0, 1) = NONE  often(0, 3, 1) = NONE
            often(0, 0, 1) = NONE  often(2, 2, 0) = NONE  often(3, 3, 1) = NONE  often(MIN, 0, 1) = NONE
            often(0, MAX, 1) = NONE  often(0, 1, -1) = NONE  often(0, 1, 201) = NONE  often(0, 1, MIN) = NONE
            often(0, 1, MAX) = NONE  often(0, 1, 0) = 0  often(0, 1, 1) = 0  often(0, 1, 2) = 1  often(1, 0, 2) = 1""");
        EDGES.test(17, "in n NIGHTS (0 .. 200)", Edges.PAIR).asks("""
            often(0, 1, 0) = 0  often(0, 1, 1) = 1  often(0, 1, 199) = 199  often(0, 1, 200) = 200
            often(0, 1, 201) = NONE  often(0, 1, -1) = NONE""");
        EDGES.test(17, "the last of 200 NIGHTS", from(199)).asks("often(0, 1, 199) = 0  often(0, 1, 200) = 1");
        EDGES.test(17, "the night behind 200", from(200))
            .asks("often(0, 1, 200) = 0  nights(1) = 1  often(0, 1, 200) = 1");
        EDGES.test(17, "at all hours", ALL_DAY).asks("often(0, 1, 1) = 24  often(1, 0, 200) = 4800");
        EDGES.test(17, "never", Edges.APART).asks("often(0, 1, 200) = 0");
        EDGES.test(17, "in these NIGHTS, not so far", Edges.PAIR)
            .asks("nights(7) = 7  often(0, 1, 0) = 0  often(0, 1, 2) = 2");
    }

    private static void alone() {
        EDGES.full(18, "NONE: no such ones").asks("""
            alone(-1, 1) = NONE  alone(3, 1) = NONE  alone(MIN, 1) = NONE  alone(MAX, 1) = NONE  alone(0, -1) = NONE
            alone(0, 201) = NONE  alone(0, MIN) = NONE  alone(0, MAX) = NONE  alone(3, 201) = NONE
            alone(0, 0) = 0  alone(0, 1) = 3  alone(0, 2) = 5  alone(1, 2) = 2  alone(2, 2) = 1""");
        EDGES.test(18, "in n (0 .. 200)", Edges.APART).asks("""
            alone(0, 0) = 0  alone(0, 1) = 1  alone(1, 199) = 199  alone(1, 200) = 200  alone(1, 201) = NONE
            alone(1, -1) = NONE""");
        EDGES.test(18, "at how many they are, and nobody else", Edges.PAIR)
            .asks("alone(0, 200) = 0  alone(1, 200) = 0");
        EDGES.test(18, "one besides and two besides", "hours 8; dial a 0 0; goer p a 0 4; goer q a 1 2; goer r a 2 1;")
            .asks("alone(0, 1) = 2  alone(1, 1) = 0  alone(2, 1) = 0");
        EDGES.test(18, "of one GOER", "hours 24; dial a 5 7; goer p a 3 24;").asks("alone(0, 200) = 4800");
        EDGES.test(18, "who does not come", Edges.PAIR + "comes = which;")
            .asks("alone(0, 200) = 0  alone(1, 200) = 200");
        EDGES.test(18, "the last of 200 NIGHTS", ONE + "comes = night - 198;")
            .asks("alone(0, 199) = 0  alone(0, 200) = 1");
        EDGES.test(18, "the night behind 200", ONE + "comes = night - 199;").asks("alone(0, 200) = 0");
    }

    private static void earns() {
        EDGES.full(19, "NONE: no such ones").asks("""
            earns(-1, 1) = NONE  earns(3, 1) = NONE  earns(MIN, 1) = NONE  earns(MAX, 1) = NONE  earns(0, -1) = NONE
            earns(0, 201) = NONE  earns(0, MIN) = NONE  earns(0, MAX) = NONE  earns(3, 201) = NONE
            earns(0, 0) = 0  earns(0, 1) = 0  earns(0, 2) = 1  earns(1, 2) = 2  earns(2, 2) = 1""");
        EDGES.test(19, "in n (0 .. 200)", Edges.PAIR).asks("""
            earns(0, 0) = 0  earns(0, 1) = 1  earns(1, 199) = 199  earns(1, 200) = 200  earns(1, 201) = NONE
            earns(1, -1) = NONE""");
        EDGES.test(19, "the last of 200 NIGHTS", from(199)).asks("earns(0, 199) = 0  earns(0, 200) = 1");
        EDGES.test(19, "the night behind 200", from(200)).asks("earns(0, 200) = 0");
        int[][] held = {{0, 0}, {1, 200}, {98, 19600}, {99, 19800}, {100, 19800}};
        for (int[] row : held) {
            EDGES.test(19, "times WORTH, held to 0 .. 99", Edges.PAIR + "worth = " + row[0] + ";")
                .asks("earns(0, 200) = " + row[1]);
        }
        EDGES.test(19, "times WORTH, held to 0", Edges.PAIR + "worth = 0 - 1;").asks("earns(0, 200) = 0");
        EDGES.test(19, "the most there is", ALL_DAY + "worth = 9999;").asks("earns(0, 200) = 475200");
        EDGES.test(19, "anybody else: two are no more than one", FIVE_ALIKE)
            .asks("earns(0, 1) = 1  earns(4, 200) = 200");
        EDGES.test(19, "nobody else", Edges.APART).asks("earns(0, 200) = 0");
        EDGES.test(19, "WORTH in each NIGHT", Edges.PAIR + "worth = night;").asks("""
            earns(0, 1) = 0  earns(0, 3) = 3  nights(2) = 2  earns(0, 1) = 2  earns(0, 2) = 5""");
        EDGES.test(19, "WORTH by who met by then", Edges.PAIR + "worth = met;").asks("""
            earns(0, 1) = 0  earns(0, 4) = 6  nights(2) = 2  earns(0, 2) = 5""");
    }

    // ---- promises 20 to 22

    private static void right() {
        EDGES.full(20, "NONE: no such DIAL").asks("""
            right(-1) = NONE  right(2) = NONE  right(3) = NONE  right(4) = NONE  right(MIN) = NONE  right(MAX) = NONE
            right(0) = 0  right(1) = 0""");
        EDGES.test(20, "behind how many NIGHTS it is OUT by 0 first", "hours 8; dial a 0 3; dial b 7 1; dial c 1 1; dial d 1 0;")
            .asks("right(0) = 0  right(1) = 1  right(2) = 7  right(3) = -2  right(4) = NONE  nights(1) = 1  right(2) = 6");
        EDGES.test(20, "-2: never", "hours 8; dial a 1 2; dial b 4 4; dial c 2 3; dial d 7 7;")
            .asks("right(0) = -2  right(1) = 1  right(2) = 2  right(3) = 7");
        EDGES.test(20, "24 HOURS", "hours 24; dial a 1 1; dial b 23 1; dial c 23 23; dial d 12 8;")
            .asks("right(0) = 23  right(1) = 1  right(2) = 23  right(3) = -2");
        EDGES.test(20, "2 HOURS", "hours 2; dial a 1 1; dial b 1 0; dial c 0 1;")
            .asks("right(0) = 1  right(1) = -2  right(2) = 0");
    }

    private static void agree() {
        EDGES.full(21, "NONE: no such DIALS").asks("""
            agree(-1, 0) = NONE  agree(0, -1) = NONE  agree(2, 0) = NONE  agree(0, 2) = NONE  agree(2, 2) = NONE
            agree(-1, -1) = NONE  agree(MIN, 0) = NONE  agree(0, MAX) = NONE  agree(0, 1) = 0  agree(1, 1) = 0""");
        EDGES.test(21, "behind how many both are OUT by as much first", "hours 8; dial a 0 0; dial b 0 5; dial c 1 1; dial d 7 1;")
            .asks("""
                agree(0, 1) = 0  agree(0, 2) = 7  agree(2, 0) = 7  agree(0, 3) = 1  agree(3, 0) = 1
                agree(2, 3) = -2  agree(1, 2) = -2  agree(1, 3) = -2  agree(3, 3) = 0  agree(3, 4) = NONE""");
        EDGES.test(21, "24 HOURS", "hours 24; dial a 0 0; dial b 1 1; dial c 1 23;")
            .asks("agree(0, 1) = 23  agree(0, 2) = 1  agree(1, 2) = 0");
        EDGES.test(21, "2 HOURS", "hours 2; dial a 0 0; dial b 1 1; dial c 1 0;")
            .asks("agree(0, 1) = 1  agree(0, 2) = -2  agree(1, 2) = 0");
    }

    private static void roundOf(String told, String text, int want) {
        EDGES.test(22, told + ": " + text, text).asks("round() = " + want);
    }

    private static void round() {
        EDGES.test(22, "no DIALS: 1").asks("round() = 1");
        roundOf("no DIALS: 1", "hours 24;", 1);
        String fewest = "the fewest NIGHTS (1 or more) behind which all DIALS are OUT as now";
        roundOf(fewest, "hours 8; dial a 3 0;", 1);
        roundOf(fewest, "hours 8; dial a 3 1;", 8);
        roundOf(fewest, "hours 8; dial a 3 7;", 8);
        roundOf(fewest, "hours 8; dial a 3 4;", 2);
        roundOf(fewest, "hours 8; dial a 0 6;", 4);
        roundOf(fewest, "hours 8; dial a 0 0; dial b 0 4;", 2);
        roundOf(fewest, "hours 8; dial a 0 4; dial b 0 0;", 2);
        roundOf(fewest, "hours 8; dial a 0 4; dial b 0 2;", 4);
        roundOf(fewest, "hours 24; dial a 0 8; dial b 0 6;", 12);
        roundOf(fewest, "hours 24; dial a 0 8; dial b 0 12; dial c 0 0; dial d 0 3;", 24);
        roundOf(fewest, "hours 24; dial a 0 1;", 24);
        roundOf(fewest, "hours 24; dial a 0 23;", 24);
        roundOf(fewest, "hours 2; dial a 0 1;", 2);
        roundOf(fewest, "hours 2; dial a 0 0;", 1);
        EDGES.full(22, "SLIPS as they are now")
            .asks("round() = 8  slip(1, 4) = true  round() = 2  slip(1, 0) = true  round() = 1");
    }

    // ---- promises 23 to 26

    /** What turns, parts and mend refuse alike. */
    private static String refused(String call) {
        String rows = """
            @(-1, 3, 0) = NONE  @(2, 3, 0) = NONE  @(MIN, 3, 0) = NONE  @(MAX, 3, 0) = NONE
            @(1, 0, 0) = NONE  @(1, 1, 0) = NONE  @(1, 4, 0) = NONE  @(1, 8, 0) = NONE  @(1, 9, 0) = NONE
            @(1, 15, 0) = NONE  @(1, -1, 0) = NONE  @(1, MIN, 0) = NONE  @(1, MAX, 0) = NONE
            @(1, 3, -1) = NONE  @(1, 3, 61) = NONE  @(1, 3, MIN) = NONE  @(1, 3, MAX) = NONE""";
        return rows.replace("@", call);
    }

    private static void turns() {
        EDGES.full(23, "NONE: no such ones (S as in MEET)").asks(refused("turns")).asks("""
            turns(1, 3, 0) = 2  turns(1, 3, 1) = 0  turns(0, 3, 0) = 3  turns(0, 5, 60) = -2""");
        for (int hour = 0; hour < 8; hour++) {
            EDGES.test(23, "by how few hours (0 .. HOURS less 1): " + hour, byTwo(hour)).asks("turns(1, 3, 0) = " + hour
                + "  turns(1, 3, 60) = " + hour + "  turns(0, 3, 0) = " + (8 - hour) % 8
                + "  turns(2, 3, 60) = " + (hour == 0 ? 0 : -2));
        }
        EDGES.test(23, "turned round the night", "hours 8; dial a 0 0; dial b 7 0; goer p a 0 1; goer q b 0 1;")
            .asks("turns(1, 3, 0) = 1  turns(0, 3, 0) = 7");
        EDGES.test(23, "behind n NIGHTS or fewer", byTwo(2).replace("b 0 0", "b 0 1"))
            .asks("turns(1, 3, 0) = 2  turns(1, 3, 1) = 1  turns(1, 3, 2) = 0  turns(1, 3, 3) = 0");
        EDGES.test(23, "in n (0 .. 60): behind 60", from(60))
            .asks("turns(0, 3, 59) = -2  turns(0, 3, 60) = 0  turns(0, 3, 61) = NONE");
        EDGES.test(23, "in n (0 .. 60): behind 61", from(61)).asks("turns(0, 3, 60) = -2");
        EDGES.test(23, "LAWS go by how it is turned", byTwo(0).replace("b 0 1", "b 0 2") + "comes = if which < 1 then 1 else out;")
            .asks("turns(1, 3, 0) = 1");
        EDGES.test(23, "2 HOURS", "hours 2; dial a 0 0; dial b 0 0; goer p a 0 1; goer q b 1 1;")
            .asks("turns(0, 3, 0) = 1  turns(1, 3, 0) = 1");
        EDGES.test(23, "24 HOURS", "hours 24; dial a 0 0; dial b 0 0; goer p a 0 1; goer q b 23 1;")
            .asks("turns(1, 3, 0) = 23  turns(0, 3, 0) = 1");
    }

    private static void parts() {
        EDGES.full(24, "NONE: no such ones (S as in MEET)").asks(refused("parts")).asks("""
            parts(1, 3, 0) = 0  parts(1, 3, 1) = 1  parts(0, 5, 60) = 0""");
        EDGES.test(24, "-2: by none", Edges.PAIR).asks("parts(0, 3, 0) = -2  parts(0, 3, 60) = -2");
        EDGES.test(24, "by how few hours: 0", byTwo(1))
            .asks("parts(1, 3, 0) = 0  parts(1, 3, 60) = 0  parts(2, 3, 60) = 0");
        EDGES.test(24, "by how few hours: 1", byTwo(0))
            .asks("parts(1, 3, 0) = 1  parts(0, 3, 60) = 1  parts(2, 3, 0) = -2");
        EDGES.test(24, "by how few hours: HOURS less 1", byTwo(0).replace("b 0 1", "b 0 7"))
            .asks("parts(1, 3, 0) = 7  parts(0, 3, 0) = 1");
        EDGES.test(24, "-2: by none, as one is always there", byTwo(0).replace("b 0 1", "b 0 8"))
            .asks("parts(1, 3, 0) = -2");
        EDGES.test(24, "behind n NIGHTS or fewer", byTwo(0).replace("b 0 0", "b 0 1"))
            .asks("parts(1, 3, 0) = 1  parts(1, 3, 1) = 1  parts(1, 3, 6) = 1  parts(1, 3, 7) = -2");
        EDGES.test(24, "in n (0 .. 60): behind 60", from(60))
            .asks("parts(0, 3, 59) = 0  parts(0, 3, 60) = -2  parts(0, 3, 61) = NONE");
        EDGES.test(24, "in n (0 .. 60): behind 61", from(61)).asks("parts(0, 3, 60) = 0");
    }

    /** As byTwo, with a third one by dial b. */
    private static String byThree(int hour, int third, int stays) {
        return byTwo(hour) + "goer r b " + third + " " + stays + ";";
    }

    private static void knot() {
        EDGES.full(25, "NONE: no such ones (S as in MEET)").asks(refused("knot").replaceAll("\\((\\S+) (\\S+) (\\S+)\\)", "($1 $2 6, $3)"))
            .asks("knot(1, 3, 6, 0) = 2  knot(1, 3, 6, 1) = 2  knot(1, 3, 3, 60) = -2");
        EDGES.full(25, "NONE: no such ones (T as S)").asks(refused("knot").replaceAll("\\((\\S+) (\\S+) (\\S+)\\)", "($1 3, $2 $3)"));
        EDGES.test(25, "S does, and T does not: 0", byThree(0, 4, 1))
            .asks("knot(1, 3, 5, 0) = 0  knot(1, 3, 5, 60) = 0  knot(1, 5, 3, 0) = 4");
        EDGES.test(25, "S does, and T does not: HOURS less 1", byThree(7, 3, 1))
            .asks("knot(1, 3, 5, 0) = 7  knot(0, 3, 5, 0) = 1");
        EDGES.test(25, "T does not for every turn", byThree(7, 3, 1)).asks("knot(1, 3, 6, 0) = 7");
        EDGES.test(25, "-2: by none, T does whenever S does", byThree(7, 7, 1)).asks("knot(1, 3, 5, 60) = -2");
        EDGES.test(25, "-2: by none, T always does", byThree(7, 0, 8)).asks("knot(1, 3, 5, 0) = -2");
        EDGES.test(25, "-2: by none, S never does", byThree(7, 3, 1)).asks("knot(1, 6, 3, 0) = -2");
        EDGES.test(25, "-2: S and T are the same", byThree(0, 3, 1)).asks("knot(1, 3, 3, 0) = -2");
        EDGES.test(25, "a turn for S that does not do for T", byThree(2, 2, 6).replace("q b 2 1", "q b 2 8"))
            .asks("knot(1, 3, 5, 0) = 0  turn(1, 2) = 2  knot(1, 3, 5, 0) = 6");
        EDGES.test(25, "both behind n NIGHTS or fewer", byThree(0, 1, 1).replace("b 0 0", "b 0 1"))
            .asks("knot(1, 3, 5, 0) = 0  knot(1, 3, 5, 1) = 7");
        EDGES.test(25, "in n (0 .. 60): behind 60", from(60) + "goer r a 1 1;")
            .asks("knot(0, 3, 5, 59) = -2  knot(0, 3, 5, 60) = 0  knot(0, 3, 5, 61) = NONE");
        EDGES.test(25, "in n (0 .. 60): behind 61", from(61) + "goer r a 1 1;").asks("knot(0, 3, 5, 60) = -2");
        EDGES.test(25, "in n (0 .. 60): T behind 60 and 61", "hours 8; dial a 0 0; goer p a 0 1; goer q a 0 1; goer r a 0 1;"
            + "comes = if which < 2 then 1 else night - 59;")
                .asks("knot(0, 3, 5, 59) = 0  knot(0, 3, 5, 60) = -2  nights(1) = 1  knot(0, 3, 5, 59) = -2");
    }

    private static void mend() {
        EDGES.full(26, "NONE: no such ones (S as in MEET)").asks(refused("mend")).asks("""
            mend(1, 3, 0) = -2  mend(1, 3, 1) = 2  mend(0, 5, 60) = -2  dial(1, 1) = 5""");
        for (int hour = 1; hour < 8; hour++) {
            EDGES.test(26, "by how little a SLIP (0 .. HOURS less 1): " + hour, byTwo(hour)).asks("mend(1, 3, 0) = -2  mend(1, 3, 1) = "
                + hour + "  mend(0, 3, 1) = " + (8 - hour) + "  mend(2, 3, 60) = -2");
        }
        EDGES.test(26, "0, whatever SLIP it has", byTwo(0).replace("b 0 0", "b 0 3"))
            .asks("mend(1, 3, 0) = 0  mend(1, 3, 60) = 0");
        EDGES.test(26, "the SLIP it has does not count", byTwo(6).replace("b 0 0", "b 0 6"))
            .asks("mend(1, 3, 1) = 6  mend(1, 3, 2) = 3");
        EDGES.test(26, "behind n NIGHTS or fewer", byTwo(7))
            .asks("""
                mend(1, 3, 2) = 7  mend(1, 3, 3) = 5  mend(1, 3, 4) = 5  mend(1, 3, 5) = 3  mend(1, 3, 6) = 3
                mend(1, 3, 7) = 1""");
        EDGES.test(26, "in n: behind 60", from(60))
            .asks("mend(0, 3, 59) = -2  mend(0, 3, 60) = 0  mend(0, 3, 61) = NONE");
        EDGES.test(26, "in n: behind 61", from(61)).asks("mend(0, 3, 60) = -2");
        EDGES.test(26, "LAWS go by the SLIP", byTwo(0) + "comes = if which < 1 then 1 else slip - 3;")
            .asks("mend(1, 3, 0) = 4");
        EDGES.test(26, "LAWS go by the SLIP: the most", byTwo(0) + "comes = if which < 1 then 1 else slip - 6;")
            .asks("mend(1, 3, 0) = 7");
        EDGES.test(26, "LAWS go by the SLIP: there is none more", byTwo(0) + "comes = if which < 1 then 1 else slip - 7;")
            .asks("mend(1, 3, 0) = -2");
        EDGES.test(26, "24 HOURS", "hours 24; dial a 0 0; dial b 0 0; goer p a 0 1; goer q b 23 1;")
            .asks("mend(1, 3, 1) = 23  mend(1, 3, 22) = 5  mend(1, 3, 23) = 1");
    }

    // ---- promises 27 to 29

    private static void sooner() {
        EDGES.full(27, "NONE for others").asks("""
            sooner(-1) = NONE  sooner(2) = NONE  sooner(MIN) = NONE  sooner(MAX) = NONE  sooner(0) = 1  sooner(1) = 1""");
        EDGES.test(27, "-2: none MEET", Edges.APART)
            .asks("sooner(0) = -2  sooner(1) = -2  sooner(2) = NONE  sooner(-1) = NONE");
        EDGES.test(27, "-2: one GOER", ONE).asks("sooner(0) = -2  sooner(1) = -2");
        EDGES.test(27, "of alike ones the first", FIVE_ALIKE).asks("sooner(0) = 1  sooner(1) = 0");
        EDGES.test(27, "10 * the lesser + the other: the last two", FIVE_APART.replace("t a 4", "t a 3"))
            .asks("sooner(0) = 34  sooner(1) = 0");
        EDGES.test(27, "10 * the lesser + the other: the first and the last", FIVE_APART.replace("t a 4", "t a 0"))
            .asks("sooner(0) = 4");
        EDGES.test(27, "of alike ones the first: by the lesser first", FIVE_APART.replace("t a 4 1", "t a 0 3"))
            .asks("sooner(0) = 4");
        EDGES.test(27, "behind fewest NIGHTS", "hours 8; dial a 0 0; dial b 0 1; goer p a 0 1; goer q b 2 1; goer r b 1 1; goer s a 7 1;")
            .asks("sooner(0) = 2  sooner(1) = 1  nights(1) = 1  sooner(0) = 2  sooner(1) = 0  nights(1) = 2  sooner(0) = 1");
        EDGES.test(27, "behind 400", from(400)).asks("sooner(0) = 1  sooner(1) = 400");
        EDGES.test(27, "behind 401", from(401)).asks("sooner(0) = -2  sooner(1) = -2  nights(1) = 1  sooner(1) = 400");
    }

    private static void strangers() {
        EDGES.full(28, "NONE: no such GOER").asks("""
            strangers(-1) = NONE  strangers(3) = NONE  strangers(MIN) = NONE  strangers(MAX) = NONE
            strangers(0) = 4  strangers(1) = 0  strangers(2) = 1""");
        EDGES.test(28, "others with whom they do not MEET", FIVE_APART).asks("""
            strangers(0) = 30  strangers(2) = 27  strangers(4) = 15  strangers(5) = NONE""");
        EDGES.test(28, "none", FIVE_ALIKE).asks("strangers(0) = 0  strangers(4) = 0");
        EDGES.test(28, "of one GOER", ONE).asks("strangers(0) = 0  strangers(1) = NONE");
        EDGES.test(28, "behind 400", from(400)).asks("strangers(0) = 0  strangers(1) = 0");
        EDGES.test(28, "behind 401", from(401))
            .asks("strangers(0) = 2  strangers(1) = 1  nights(1) = 1  strangers(0) = 0");
        EDGES.test(28, "who met already may be a stranger", Edges.PAIR + "comes = 2 - night;").asks("""
            strangers(0) = 0  nights(2) = 2  together(0, 1) = 2  strangers(0) = 2""");
    }

    private static void by() {
        EDGES.full(29, "NONE: no such ones, one and the same").asks("""
            by(-1, 0, 1, 0) = NONE  by(0, -1, 1, 0) = NONE  by(3, 0, 1, 0) = NONE  by(0, 3, 1, 0) = NONE
            by(0, 0, 1, 0) = NONE  by(2, 2, 1, 1) = NONE  by(3, 3, 1, 0) = NONE  by(MIN, 0, 1, 0) = NONE
            by(0, MAX, 1, 0) = NONE  by(0, 1, -1, 0) = NONE  by(0, 1, 201, 0) = NONE  by(0, 1, MIN, 0) = NONE
            by(0, 1, MAX, 1) = NONE  by(0, 1, 1, -1) = NONE  by(0, 1, 1, 2) = NONE  by(0, 1, 1, MIN) = NONE
            by(0, 1, 1, MAX) = NONE  by(0, 1, 2, 0) = 0  by(0, 1, 2, 1) = 1  by(1, 2, 2, 0) = 1  by(1, 2, 2, 1) = 1""");
        String four = "hours 8; dial a 1 0; dial b 2 0; dial c 3 0; dial d 0 0; goer p a 0 1; goer q d 0 1;";
        EDGES.test(29, "the DIAL by which OFTEN is most: the last", four).asks("""
            by(0, 1, 1, 0) = 3  by(0, 1, 1, 1) = 1  by(0, 1, 200, 0) = 3  by(0, 1, 200, 1) = 200  by(1, 0, 1, 0) = 0
            by(1, 0, 199, 1) = 199  by(0, 1, 201, 1) = NONE  goer(0, 0) = 0  goer(1, 0) = 3""");
        EDGES.test(29, "of alike ones the first: in 0 NIGHTS", four).asks("by(0, 1, 0, 0) = 0  by(0, 1, 0, 1) = 0");
        EDGES.test(29, "of alike ones the first", four.replace("b 2 0", "b 0 0"))
            .asks("by(0, 1, 1, 0) = 1  by(0, 1, 1, 1) = 1");
        EDGES.test(29, "of alike ones the first: never", "hours 8; dial a 0 0; dial b 1 0; goer p b 0 1; goer q b 4 1;")
            .asks("by(0, 1, 200, 0) = 0  by(0, 1, 200, 1) = 0");
        EDGES.test(29, "by the one DIAL there is", Edges.PAIR).asks("by(0, 1, 200, 0) = 0  by(0, 1, 200, 1) = 200");
        EDGES.test(29, "the last of 200 NIGHTS", from(199)).asks("by(0, 1, 199, 1) = 0  by(0, 1, 200, 1) = 1");
    }

    // ---- promises 30 to 32

    private static void peace() {
        EDGES.full(30, "NONE: no such ones").asks("""
            peace(-1, 0) = NONE  peace(61, 0) = NONE  peace(MIN, 0) = NONE  peace(MAX, 1) = NONE  peace(1, -1) = NONE
            peace(1, 2) = NONE  peace(1, MIN) = NONE  peace(1, MAX) = NONE  peace(61, 2) = NONE
            peace(0, 0) = 0  peace(1, 0) = 0  peace(1, 1) = 0  peace(2, 0) = 1  peace(2, 1) = 2""");
        EDGES.test(30, "the fewest GOERS: none", FIVE_APART).asks("peace(60, 0) = 0  peace(60, 1) = 0");
        EDGES.test(30, "the fewest GOERS: all but one", FIVE_ALIKE).asks("""
            peace(0, 0) = 0  peace(0, 1) = 0  peace(1, 0) = 4  peace(1, 1) = 15  peace(60, 1) = 15""");
        EDGES.test(30, "of one GOER", ONE).asks("peace(60, 0) = 0  peace(60, 1) = 0");
        EDGES.test(30, "of as many the least bits", Edges.PAIR).asks("peace(1, 0) = 1  peace(1, 1) = 1");
        EDGES.test(30, "of as many the least bits: two and two", FIVE_APART.replace("q a 1", "q a 0").replace("s a 3", "s a 2"))
            .asks("peace(1, 0) = 2  peace(1, 1) = 5");
        EDGES.test(30, "fewest ahead of the least bits", FIVE_APART.replace("t a 4 1", "t a 0 4"))
            .asks("peace(1, 0) = 1  peace(1, 1) = 16");
        EDGES.test(30, "in n (0 .. 60): the last one", from(59))
            .asks("peace(59, 0) = 0  peace(60, 0) = 1  peace(60, 1) = 1");
        EDGES.test(30, "in n (0 .. 60): the night behind them", from(60)).asks("peace(60, 0) = 0  peace(61, 0) = NONE");
    }

    private static void favourite() {
        EDGES.full(31, "NONE: no such ones").asks("""
            favourite(-1, 0) = NONE  favourite(61, 0) = NONE  favourite(MIN, 0) = NONE  favourite(MAX, 1) = NONE
            favourite(1, -1) = NONE  favourite(1, 2) = NONE  favourite(1, MIN) = NONE  favourite(1, MAX) = NONE
            favourite(61, 2) = NONE  favourite(0, 0) = 0  favourite(0, 1) = 0  favourite(1, 1) = 0
            favourite(2, 0) = 1  favourite(2, 1) = 1""");
        EDGES.test(31, "in n (0 .. 60)", Edges.PAIR).asks("""
            favourite(0, 1) = 0  favourite(1, 1) = 1  favourite(59, 1) = 59  favourite(60, 1) = 60  favourite(60, 0) = 0
            favourite(61, 1) = NONE""");
        EDGES.test(31, "the last hour", "hours 24; dial a 0 0; goer p a 23 1; goer q a 23 1;")
            .asks("favourite(60, 0) = 23  favourite(60, 1) = 60");
        EDGES.test(31, "of alike ones the first", ALL_DAY).asks("favourite(60, 0) = 0  favourite(60, 1) = 60");
        EDGES.test(31, "nobody, and one", Edges.APART).asks("favourite(60, 0) = 0  favourite(60, 1) = 0");
        EDGES.test(31, "two are as good as three", "hours 8; dial a 0 0; goer p a 3 3; goer q a 4 2; goer r a 5 1;")
            .asks("favourite(1, 0) = 4  favourite(1, 1) = 1");
        EDGES.test(31, "in most of n NIGHTS", "hours 8; dial a 0 0; dial b 0 4; goer p a 2 1; goer q b 2 1; goer r a 6 1; goer s a 6 1;")
            .asks("favourite(1, 0) = 2  favourite(2, 0) = 6  favourite(2, 1) = 2  favourite(3, 0) = 6  favourite(3, 1) = 3");
        EDGES.test(31, "in n (0 .. 60): the last one", from(59)).asks("favourite(59, 1) = 0  favourite(60, 1) = 1");
        EDGES.test(31, "in n (0 .. 60): the night behind them", from(60)).asks("favourite(60, 1) = 0");
    }

    private static void longest() {
        EDGES.full(32, "NONE: no such ones, one and the same").asks("""
            longest(-1, 0, 1) = NONE  longest(0, -1, 1) = NONE  longest(3, 0, 1) = NONE  longest(0, 3, 1) = NONE
            longest(0, 0, 1) = NONE  longest(2, 2, 0) = NONE  longest(MIN, 0, 1) = NONE  longest(0, MAX, 1) = NONE
            longest(0, 1, -1) = NONE  longest(0, 1, 201) = NONE  longest(0, 1, MIN) = NONE  longest(0, 1, MAX) = NONE
            longest(0, 1, 0) = 0  longest(0, 1, 1) = 0  longest(0, 1, 2) = 1  longest(1, 0, 2) = 1""");
        EDGES.test(32, "in n (0 .. 200)", Edges.PAIR)
            .asks("longest(0, 1, 0) = 0  longest(0, 1, 1) = 1  longest(0, 1, 200) = 1  longest(0, 1, 201) = NONE");
        EDGES.test(32, "the last of 200 NIGHTS", from(199)).asks("longest(0, 1, 199) = 0  longest(0, 1, 200) = 1");
        EDGES.test(32, "the night behind 200", from(200)).asks("longest(0, 1, 200) = 0");
        EDGES.test(32, "all hours of one of n NIGHTS", ALL_DAY).asks("longest(0, 1, 1) = 24  longest(0, 1, 200) = 24");
        EDGES.test(32, "never", Edges.APART).asks("longest(0, 1, 200) = 0");
        EDGES.test(32, "the most, not the latest", Edges.PAIR + "stays = 3 - night;")
            .asks("longest(0, 1, 1) = 3  longest(0, 1, 200) = 3  nights(1) = 1  longest(0, 1, 9) = 2");
    }

    // ---- promise 33

    private static void couples() {
        EDGES.full(33, "NONE: no such ones").asks("""
            couples(-1, NONE) = NONE  couples(61, NONE) = NONE  couples(MIN, 0) = NONE  couples(MAX, 0) = NONE
            couples(-1, 0) = NONE  couples(61, 0) = NONE  couples(1, -2) = NONE  couples(1, 3) = NONE
            couples(1, 4) = NONE  couples(1, MIN) = NONE  couples(1, MAX) = NONE
            couples(0, NONE) = 0  couples(1, NONE) = 0  couples(2, NONE) = 1  couples(2, 0) = -2  couples(2, 1) = 2
            couples(2, 2) = 1""");
        EDGES.test(33, "in n (0 .. 60)", Edges.PAIR).asks("""
            couples(0, NONE) = 0  couples(0, 0) = -2  couples(0, 1) = -2  couples(1, NONE) = 1  couples(60, NONE) = 60
            couples(60, 0) = 1  couples(60, 1) = 0  couples(60, 2) = NONE  couples(61, NONE) = NONE""");
        EDGES.test(33, "in n (0 .. 60): the last one", from(59))
            .asks("couples(59, NONE) = 0  couples(59, 0) = -2  couples(60, NONE) = 1  couples(60, 1) = 0");
        EDGES.test(33, "in n (0 .. 60): the night behind them", from(60))
            .asks("couples(60, NONE) = 0  couples(60, 0) = -2");
        EDGES.test(33, "of one GOER", ONE).asks("couples(60, NONE) = 0  couples(60, 0) = -2  couples(60, 1) = NONE");
        EDGES.test(33, "nobody with whom it would be no more", FIVE_APART).asks("""
            couples(60, NONE) = 0  couples(60, 0) = -2  couples(60, 4) = -2  couples(60, 5) = NONE""");
        EDGES.test(33, "the most there is", "hours 24; dial a 0 1; goer p a 0 24; goer q a 0 24; goer r a 0 24; goer s a 0 24;")
            .asks("couples(60, NONE) = 2880");
    }

    private static void couplesOf(String told, String text, int... want) {
        StringBuilder rows = new StringBuilder("couples(1, NONE) = " + want[0]);
        for (int i = 1; i < want.length; i++) {
            rows.append("  couples(1, ").append(i - 1).append(") = ").append(want[i]);
        }
        EDGES.test(33, told, text).asks(rows.toString());
    }

    private static void couplesAlike() {
        String three = "hours 8; dial a 0 0; goer p a 0 1; goer q a 0 1; goer r a 0 1;";
        couplesOf("of alike ones nobody ahead of all: three", three, 1, -2, 2, 1);
        couplesOf("then the lowest: four", three + "goer s a 0 1;", 2, 1, 0, 3, 2);
        couplesOf("nobody, then the lowest for the next one: five", FIVE_ALIKE, 2, -2, 2, 1, 4, 3);
        couplesOf("across one another", "hours 8; dial a 0 0; goer p a 0 1; goer q a 4 1; goer r a 0 1; goer s a 4 1;",
            2, 2, 3, 0, 1);
        couplesOf("within one another", "hours 8; dial a 0 0; goer p a 0 1; goer q a 4 1; goer r a 4 1; goer s a 0 1;",
            2, 3, 2, 1, 0);
        couplesOf("the lowest for the first", "hours 8; dial a 0 0; goer p a 0 2; goer q a 0 1; goer r a 1 1;", 1, 1, 0, -2);
        couplesOf("nobody for the first, as the others make as much", "hours 8; dial a 0 0; goer p a 0 1; goer q a 1 1; goer r a 0 2;", 1, -2, 2, 1);
        couplesOf("most ahead of the first", "hours 8; dial a 0 0; goer p a 0 3; goer q a 0 6; goer r a 3 5; goer s a 6 2;", 5, 1, 0, 3, 2);
        couplesOf("one of more hours ahead of two", "hours 8; dial a 0 0; goer p a 0 1; goer q a 0 8; goer r a 1 7; goer s a 1 1;", 7, -2, 2, 1, -2);
        couplesOf("two of as many hours as one: nobody first", "hours 8; dial a 0 0; goer p a 0 1; goer q a 0 4; goer r a 2 3; goer s a 4 1;", 2, -2, 2, 1, -2);
    }

    // ---- promise 34

    private static void fullest() {
        EDGES.full(34, "NONE for others").asks("""
            fullest(-1) = NONE  fullest(2) = NONE  fullest(MIN) = NONE  fullest(MAX) = NONE  fullest(0) = 1
            fullest(1) = 1""");
        EDGES.test(34, "nobody", Edges.PAIR + "comes = 0;").asks("fullest(0) = 0  fullest(1) = 0");
        EDGES.test(34, "all", FIVE_ALIKE).asks("fullest(0) = 0  fullest(1) = 5");
        EDGES.test(34, "the last hour", "hours 24; dial a 0 0; goer p a 23 1; goer q a 22 2;")
            .asks("fullest(0) = 23  fullest(1) = 2");
        EDGES.test(34, "the first hour", "hours 24; dial a 0 0; goer p a 23 2; goer q a 0 2;")
            .asks("fullest(0) = 0  fullest(1) = 2");
        EDGES.test(34, "of alike ones the first", "hours 8; dial a 0 0; goer p a 3 5; goer q a 5 1; goer r a 7 1;")
            .asks("fullest(0) = 5  fullest(1) = 2");
        EDGES.test(34, "of this night, no ECLIPSES", Edges.GARDEN + "dims = 100; seed 7;").asks("""
            fullest(0) = 3  fullest(1) = 2  nights(1) = 1  fullest(0) = 2  fullest(1) = 2""");
    }

    // ---- promise 35

    private static void game() {
        EDGES.full(35, "NONE: no such ones").asks("""
            game(-1, 1, 0) = NONE  game(2, 1, 0) = NONE  game(MIN, 1, 0) = NONE  game(MAX, 1, 0) = NONE
            game(1, 0, 0) = NONE  game(1, -1, 0) = NONE  game(1, 7, 0) = NONE  game(1, MIN, 0) = NONE
            game(1, MAX, 0) = NONE  game(1, 1, -1) = NONE  game(1, 1, 2) = NONE  game(1, 1, MIN) = NONE
            game(1, 1, MAX) = NONE  game(1, 1, 0) = 1  game(1, 1, 1) = 2""");
        EDGES.test(35, "NONE: there are not two GOERS", ONE).asks("game(0, 1, 0) = NONE  game(0, 1, 1) = NONE");
        EDGES.test(35, "NONE: there are no GOERS", "dial a 0 0;").asks("game(0, 1, 0) = NONE  game(0, 6, 1) = NONE");
        String two = "hours 2; dial a 0 0; dial b 0 0; dial c 0 0; goer p a 0 1; goer q b 0 1;";
        int[] hours = {1, 1, 2, 2, 3, 3};
        for (int n = 1; n <= 6; n++) {
            EDGES.test(35, "GAME of n (1 .. 6): " + n, two).asks("game(1, " + n + ", 0) = " + hours[n - 1]
                + "  game(1, " + n + ", 1) = 0  game(0, " + n + ", 0) = " + hours[n - 1] + "  game(2, " + n + ", 0) = " + n);
            EDGES.test(35, "GAME of n (1 .. 6), turned ahead of the first NIGHT: " + n, two.replace("b 0 0", "b 1 0"))
                .asks("game(1, " + n + ", 0) = " + hours[n - 1] + "  game(1, " + n + ", 1) = 1  game(2, " + n + ", 0) = 0");
        }
        EDGES.test(35, "a turn by 2 of 2 HOURS is none, and it slips", two.replace("b 0 0", "b 1 1"))
            .asks("game(1, 1, 0) = 1  game(1, 1, 1) = 1  game(1, 6, 0) = 3");
        EDGES.test(35, "GOERS 0 and 1, no others", two.replace("q b 0 1", "q c 1 1") + "goer r b 0 1;")
            .asks("game(1, 6, 0) = 0");
        EDGES.test(35, "all hours", ALL_DAY).asks("game(0, 6, 0) = 144  game(0, 6, 1) = 0");
    }

    private static void gameMoves() {
        int[] hours = {1, 1, 1, 0, 0, 0, 0, 0};
        int[] moves = {0, 1, 2, 0, 0, 0, 0, 0};
        for (int hour = 0; hour < 8; hour++) {
            EDGES.test(35, "turned on by 0, 1 or 2 hours, of as good ones the least: " + hour, byTwo(hour))
                .asks("game(1, 1, 0) = " + hours[hour] + "  game(1, 1, 1) = " + moves[hour]);
        }
        EDGES.test(35, "the other would have them together at fewest hours", byTwo(3)).asks("""
            game(1, 2, 0) = 0  game(1, 2, 1) = 0  game(1, 3, 0) = 1  game(1, 3, 1) = 1""");
        EDGES.test(35, "turned round the night", byTwo(0).replace("b 0 0", "b 7 0"))
            .asks("game(1, 1, 0) = 1  game(1, 1, 1) = 1");
        EDGES.test(35, "NIGHTS go by, in which they are together",
            "hours 2; dial a 0 0; dial b 0 0; goer p a 0 1; goer q b 0 1; comes = 1 - met;")
            .asks("game(1, 1, 0) = 1  game(1, 3, 0) = 1  game(1, 6, 0) = 1  goer(0, 6) = 0");
        EDGES.test(35, "NIGHTS go by, in which DIALS slip", byTwo(2).replace("b 0 0", "b 0 1"))
            .asks("game(2, 1, 0) = 0  game(2, 2, 0) = 0  game(2, 3, 0) = 1  game(2, 6, 0) = 1  dial(1, 0) = 0");
        EDGES.test(35, "NIGHTS go by: which it is", byTwo(0) + "comes = night - 4;")
            .asks("game(2, 5, 0) = 0  game(2, 6, 0) = 1  count(3) = 0");
    }
}
