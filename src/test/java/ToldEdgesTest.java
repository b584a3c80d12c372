/** The boundary cases of promises 39 to 45: what is told, what is held, and counts. */
public final class ToldEdgesTest {
    private static final Edges EDGES = new Edges("ToldEdgesTest");
    /** By a p is there at 0, by b at 7, by c at 6, by d at 5, then at 4, and so on: behind 29 NIGHTS at 0, behind 30 at 7. */
    private static final String FOUR =
        "hours 8; dial a 0 0; dial b 1 0; dial c 2 0; dial d 3 1; goer p a 0 1; goer q a 5 1;";
    private static final String FIVE_ALIKE =
        "hours 8; dial a 0 0; goer p a 0 1; goer q a 0 1; goer r a 0 1; goer s a 0 1; goer t a 0 1;";

    private ToldEdgesTest() {
    }

    public static void main(String[] args) {
        tell();
        forget();
        fits();
        fitsOthers();
        fitsByNights();
        look();
        lookFar();
        hold();
        restore();
        count();
        countBits();
        countSizes();
        EDGES.end(39, 45);
    }

    // ---- promises 39 and 40

    private static void tellTimes(Run run, int from, int to) {
        for (int i = from; i < to; i++) {
            run.asks("tell(" + i + ", " + i % 8 + ", false) = " + i);
        }
    }

    private static void tell() {
        EDGES.full(39, "NONE, and nothing happens: no such ones").asks("""
            tell(-1, 0, true) = NONE  tell(31, 0, true) = NONE  tell(MIN, 0, false) = NONE  tell(MAX, 0, true) = NONE
            tell(0, -1, true) = NONE  tell(0, 8, false) = NONE  tell(0, MIN, true) = NONE  tell(0, MAX, false) = NONE
            tell(31, 8, true) = NONE  count(10) = 2""");
        EDGES.full(39, "its number, behind i NIGHTS (0 .. 30), at an hour").asks("""
            tell(0, 0, true) = 2  tell(30, 7, false) = 3  tell(29, 0, false) = 4  tell(1, 6, true) = 5  count(10) = 6""");
        EDGES.test(39, "24 HOURS", "hours 24;")
            .asks("tell(0, 23, true) = 0  tell(0, 24, true) = NONE  tell(30, 23, true) = 1");
        EDGES.test(39, "2 HOURS", "hours 2;").asks("tell(0, 1, true) = 0  tell(0, 2, true) = NONE");
        EDGES.test(39, "12 HOURS of a new object").asks("tell(0, 11, true) = 0  tell(0, 12, true) = NONE");
        Run run = EDGES.test(39, "20 at most", Edges.GARDEN);
        tellTimes(run, 0, 20);
        run.asks("""
            count(10) = 20  tell(0, 0, true) = NONE  tell(0, 0, false) = NONE  tell(30, 7, true) = NONE
            tell(31, 8, true) = NONE  count(10) = 20  forget() = 20  tell(0, 0, true) = 0  count(10) = 1""");
        EDGES.test(39, "the same may be told again, and otherwise", Edges.GARDEN).asks("""
            tell(0, 0, true) = 0  tell(0, 0, true) = 1  tell(0, 0, false) = 2  fits(3, 0, 0) = 0""");
    }

    private static void forget() {
        EDGES.test(40, "how many there were: none").asks("forget() = 0  forget() = 0");
        EDGES.test(40, "how many there were: one", Edges.PAIR)
            .asks("tell(0, 0, true) = 0  forget() = 1  forget() = 0  count(10) = 0");
        Run run = EDGES.test(40, "how many there were: 19", Edges.GARDEN);
        tellTimes(run, 0, 19);
        run.asks("forget() = 19  count(10) = 0  fits(0, 0, 0) = 2  fits(1, 0, 0) = NONE");
        run = EDGES.test(40, "how many there were: 20", Edges.GARDEN);
        tellTimes(run, 0, 20);
        run.asks("tell(0, 0, true) = NONE  forget() = 20  forget() = 0");
        EDGES.test(40, "all that was TOLD: numbered from 0 on again", FOUR).asks("""
            tell(0, 0, true) = 0  tell(0, 7, true) = 1  fits(2, 0, 1) = 0  forget() = 2  tell(0, 7, true) = 0
            fits(1, 0, 1) = 2  fits(2, 0, 1) = NONE""");
        EDGES.full(40, "and nothing else").asks("""
            forget() = 2  count(3) = 2  count(8) = 20  count(9) = 4  count(10) = 0  count(11) = 2  place() = 6""");
    }

    // ---- promise 41

    private static void fits() {
        EDGES.full(41, "NONE: no such ones").asks("""
            fits(-1, 0, 0) = NONE  fits(3, 0, 0) = NONE  fits(20, 0, 0) = NONE  fits(MIN, 0, 0) = NONE
            fits(MAX, 0, 0) = NONE  fits(0, -1, 0) = NONE  fits(0, 3, 0) = NONE  fits(0, MIN, 0) = NONE
            fits(0, MAX, 0) = NONE  fits(0, 0, -1) = NONE  fits(0, 0, 2) = NONE  fits(0, 0, MIN) = NONE
            fits(0, 0, MAX) = NONE  fits(2, 2, 1) = 0  fits(0, 2, 1) = 3  fits(1, 0, 1) = 3  fits(2, 0, 1) = 1
            fits(2, 0, 0) = 1""");
        EDGES.test(41, "as KNOWN by k: the first k", FOUR).asks("""
            fits(0, 0, 0) = 4  fits(0, 0, 1) = 15  fits(1, 0, 0) = NONE  fits(-1, 0, 0) = NONE
            tell(0, 0, false) = 0  tell(0, 6, false) = 1  tell(0, 7, false) = 2  tell(0, 5, false) = 3
            fits(0, 0, 1) = 15  fits(1, 0, 1) = 14  fits(2, 0, 1) = 10  fits(3, 0, 1) = 8  fits(4, 0, 1) = 0
            fits(0, 0, 0) = 4  fits(1, 0, 0) = 3  fits(2, 0, 0) = 2  fits(3, 0, 0) = 1  fits(4, 0, 0) = 0
            fits(5, 0, 0) = NONE""");
        EDGES.test(41, "is THERE, or is not", FOUR).asks("""
            tell(0, 0, true) = 0  fits(1, 0, 1) = 1  forget() = 1  tell(0, 0, false) = 0  fits(1, 0, 1) = 14
            forget() = 1  tell(0, 1, true) = 0  fits(1, 0, 1) = 0  forget() = 1  tell(0, 1, false) = 0  fits(1, 0, 1) = 15""");
        Run run = EDGES.test(41, "as KNOWN by 20", FOUR);
        for (int i = 0; i < 19; i++) {
            run.asks("tell(0, 0, false) = " + i);
        }
        run.asks("tell(0, 7, false) = 19  fits(19, 0, 1) = 14  fits(20, 0, 1) = 12  fits(21, 0, 1) = NONE");
        EDGES.test(41, "the last hour of 24", "hours 24; dial a 0 0; dial b 1 0; goer p b 23 1;").asks("""
            tell(0, 23, true) = 0  fits(1, 0, 1) = 1  tell(0, 23, false) = 1  fits(2, 0, 1) = 0  forget() = 2
            tell(0, 22, true) = 0  fits(1, 0, 1) = 2""");
        EDGES.test(41, "of one who does not come", FOUR + "comes = which;").asks("""
            tell(0, 0, false) = 0  fits(1, 0, 1) = 15  tell(0, 0, true) = 1  fits(2, 0, 1) = 0""");
    }

    private static void fitsOthers() {
        // By a q is there at 5, by b at 4, by c at 3, by d at 2, then at 1.
        EDGES.test(41, "each GOER by their own hours", FOUR).asks("""
            tell(0, 4, true) = 0  fits(1, 1, 1) = 2  fits(1, 0, 1) = 0  tell(1, 4, true) = 1  fits(2, 1, 1) = 2
            forget() = 2  tell(1, 1, true) = 0  fits(1, 1, 1) = 8  fits(1, 1, 0) = 1  look(0, 1, 1) = 1
            look(0, 1, 5) = 5  look(0, 1, 2) = 0""");
        String five = "hours 8; dial a 0 0; dial b 1 0; dial c 2 0; dial d 3 1; goer p a 1 1; goer q b 2 1; goer r c 3 1;"
            + "goer s d 4 1; goer t a 0 1;";
        EDGES.test(41, "the last GOER", five).asks("""
            tell(0, 7, true) = 0  fits(1, 4, 1) = 2  fits(1, 0, 1) = 4  fits(1, 1, 1) = 8  fits(1, 2, 1) = 0
            fits(1, 5, 1) = NONE  look(0, 4, 0) = 5  look(1, 4, 0) = 0  look(0, 5, 0) = NONE""");
    }

    private static void fitsByNights() {
        EDGES.test(41, "behind i NIGHTS (0 .. 30)", FOUR).asks("""
            tell(30, 7, true) = 0  fits(1, 0, 1) = 10  forget() = 1  tell(30, 7, false) = 0  fits(1, 0, 1) = 5
            forget() = 1  tell(29, 7, true) = 0  fits(1, 0, 1) = 2  forget() = 1  tell(29, 0, true) = 0  fits(1, 0, 1) = 9
            forget() = 1  tell(1, 4, true) = 0  fits(1, 0, 1) = 8  forget() = 1  tell(0, 4, true) = 0  fits(1, 0, 1) = 0""");
        EDGES.test(41, "behind so many NIGHTS from now on", FOUR).asks("""
            tell(1, 4, true) = 0  fits(1, 0, 1) = 8  nights(1) = 1  fits(1, 0, 1) = 0  undo() = true  fits(1, 0, 1) = 8
            nights(8) = 8  fits(1, 0, 1) = 8""");
        EDGES.test(41, "did that one go by them now (all else as now)", FOUR).asks("""
            tell(0, 0, true) = 0  fits(1, 0, 1) = 1  follow(0, 2) = true  fits(1, 0, 1) = 1  turn(1, 7) = 0
            fits(1, 0, 1) = 3  fits(1, 1, 1) = 0  goer(0, 0) = 2  goer(1, 0) = 0""");
        EDGES.test(41, "NIGHTS go by, in which they would be together",
            "hours 8; dial a 0 0; dial b 1 0; goer p a 0 1; goer q a 0 1; stays = 1 + met;").asks("""
                tell(1, 1, true) = 0  fits(1, 0, 1) = 1  forget() = 1  tell(1, 7, true) = 0  fits(1, 0, 1) = 2
                forget() = 1  tell(1, 0, true) = 0  fits(1, 0, 1) = 1""");
        EDGES.test(41, "no ECLIPSES", FOUR + "dims = 100; seed 7;").asks("""
            tell(0, 0, true) = 0  fits(1, 0, 1) = 1  tell(30, 0, true) = 1  fits(2, 0, 1) = 1""");
    }

    // ---- promise 42

    private static void look() {
        EDGES.full(42, "NONE: no such ones").asks("""
            look(-1, 0, 0) = NONE  look(3, 0, 0) = NONE  look(MIN, 0, 0) = NONE  look(MAX, 0, 0) = NONE
            look(0, -1, 0) = NONE  look(0, 3, 0) = NONE  look(0, MIN, 0) = NONE  look(0, MAX, 0) = NONE
            look(0, 0, -1) = NONE  look(0, 0, 8) = NONE  look(0, 0, MIN) = NONE  look(0, 0, MAX) = NONE
            look(3, 2, 0) = NONE  look(2, 2, 0) = -2  look(2, 2, 7) = -2  look(2, 2, 8) = NONE  look(3, 3, 8) = NONE""");
        EDGES.test(42, "fewest are left, at worst; of alike ones the first", FOUR).asks("""
            look(0, 0, 0) = 5  look(0, 0, 7) = 6  look(0, 0, 6) = 7  look(0, 0, 5) = 0  look(0, 0, 4) = 1
            look(0, 0, 1) = 4  look(0, 0, 8) = NONE  look(0, 0, -1) = NONE  look(1, 0, 0) = NONE""");
        EDGES.test(42, "as KNOWN by k", FOUR).asks("""
            tell(0, 0, false) = 0  tell(0, 6, false) = 1  tell(0, 7, false) = 2  tell(0, 5, false) = 3
            look(0, 0, 0) = 5  look(1, 0, 0) = 5  look(1, 0, 7) = 0  look(2, 0, 0) = 5  look(2, 0, 7) = 0
            look(2, 0, 6) = 7  look(3, 0, 0) = 0  look(3, 0, 4) = 0  look(4, 0, 0) = -2  look(4, 0, 7) = -2
            look(5, 0, 0) = NONE""");
        EDGES.test(42, "of one DIAL", Edges.PAIR).asks("look(0, 0, 0) = 0  look(0, 1, 7) = 0");
        EDGES.test(42, "nothing tells them apart", "hours 8; dial a 0 0; dial b 0 0; goer p a 0 1;")
            .asks("look(0, 0, 0) = 0  look(0, 0, 5) = 0");
        EDGES.test(42, "24 HOURS", "hours 24; dial a 0 0; dial b 1 1; goer p a 0 1;").asks("""
            look(0, 0, 23) = 0  look(0, 0, 22) = 1  look(0, 0, 24) = NONE  look(0, 0, 0) = 0  look(0, 0, 1) = 22""");
    }

    private static void lookFar() {
        String far = "hours 8; dial a 0 0; dial b 1 0; goer p a 0 1; comes = night - ";
        EDGES.test(42, "the i (0 .. 30): 29", far + "28;")
            .asks("look(0, 0, 0) = 29  look(0, 0, 7) = 29  look(0, 0, 5) = 0");
        EDGES.test(42, "the i (0 .. 30): 30", far + "29;").asks("look(0, 0, 0) = 30  look(0, 0, 7) = 30");
        EDGES.test(42, "the i (0 .. 30): none of them tells", far + "30;").asks("""
            look(0, 0, 0) = 0  look(0, 0, 7) = 0  nights(1) = 1  look(0, 0, 0) = 30""");
        EDGES.test(42, "no ECLIPSES", FOUR + "dims = 100; seed 7;").asks("look(0, 0, 0) = 5  look(0, 0, 7) = 6");
    }

    // ---- promises 43 and 44

    private static void hold() {
        EDGES.full(43, "false: no such one")
            .asks("hold(-1) = false  hold(3) = false  hold(MIN) = false  hold(MAX) = false  count(11) = 2");
        EDGES.full(43, "false: no such one, 32 from one that is").asks("""
            hold(32) = false  hold(33) = false  hold(34) = false  hold(-32) = false  hold(-31) = false  hold(256) = false
            hold(65537) = false  count(11) = 2""");
        EDGES.test(43, "in a SLOT (0 .. 2)", Edges.PAIR).asks("""
            hold(-1) = false  hold(3) = false  count(11) = 0  hold(0) = true  count(11) = 1  hold(2) = true  count(11) = 2
            hold(1) = true  count(11) = 3  hold(3) = false  hold(1) = true  count(11) = 3""");
        EDGES.test(43, "all that goes on", Edges.GARDEN).asks("""
            turn(0, 1) = 1  slip(0, 7) = true  follow(0, 1) = true  nights(3) = 3  hold(1) = true  turn(0, 1) = 7
            slip(0, 0) = true  follow(0, 0) = true  nights(9) = 12  restore(1) = true
            dial(0, 0) = 6  dial(0, 1) = 7  goer(0, 0) = 1  count(3) = 3  dial(1, 0) = 1""");
        EDGES.test(43, "in place of what it held", Edges.PAIR).asks("""
            hold(0) = true  nights(1) = 1  hold(0) = true  nights(1) = 2  restore(0) = true  count(3) = 1
            together(0, 1) = 1""");
        EDGES.test(43, "it is no thing done", Edges.PAIR)
            .asks("""
                hold(0) = true  count(9) = 0  undo() = false  nights(1) = 1  hold(1) = true  count(9) = 1
                undo() = true  count(3) = 0  count(11) = 2""");
        EDGES.full(43, "not what is TOLD, nor the tape").asks("""
            hold(1) = true  forget() = 2  tell(5, 5, true) = 0  back(20) = 0  restore(1) = true  count(10) = 1
            count(8) = 0  fits(2, 0, 0) = NONE""");
    }

    private static void restore() {
        EDGES.full(44, "false, and nothing happens: no such one, nothing is held").asks("""
            restore(-1) = false  restore(3) = false  restore(1) = false  restore(MIN) = false  restore(MAX) = false
            count(9) = 4""");
        // Slots 0 and 2 hold something: these are no other names of them, though bits moved by 32 are not moved at all.
        EDGES.full(44, "false, and nothing happens: no such one, 32 from one that holds something").asks("""
            restore(32) = false  restore(34) = false  restore(64) = false  restore(-32) = false  restore(-30) = false
            restore(256) = false  restore(65538) = false""");
        EDGES.full(44, "it goes on from what a SLOT holds").asks("""
            restore(0) = true  count(3) = 0  count(4) = 0  dial(1, 0) = 3  dial(1, 1) = 2  goer(2, 0) = 1  count(16) = 7
            together(0, 1) = 0  goer(0, 6) = 0  nights(1) = 1
            restore(2) = true  count(3) = 2  count(4) = 4  dial(1, 0) = 0  dial(1, 1) = 2  goer(2, 0) = 0  count(16) = 4
            together(0, 1) = 4  goer(0, 6) = 4  nights(1) = 3  dial(1, 0) = 2""");
        EDGES.full(44, "that stays there").asks("""
            restore(2) = true  nights(7) = 9  turn(0, 1) = 1  restore(2) = true  count(3) = 2  dial(0, 0) = 0
            restore(0) = true  restore(2) = true  count(3) = 2  count(11) = 2""");
        EDGES.full(44, "nothing can be undone then").asks("""
            count(9) = 4  restore(0) = true  count(9) = 0  undo() = false  turn(0, 1) = 1  count(9) = 1  undo() = true
            dial(0, 0) = 0  undo() = false""");
        EDGES.full(44, "nothing of what is TOLD, nor of the tape").asks("""
            restore(0) = true  count(10) = 2  count(8) = 20  place() = 6  read() = 0  count(0) = 9""");
        EDGES.test(44, "false: nothing is held", Edges.PAIR).asks("""
            restore(0) = false  restore(1) = false  restore(2) = false  hold(1) = true  restore(0) = false
            restore(2) = false  restore(1) = true""");
        EDGES.test(44, "nothing is held behind a text", Edges.PAIR).asks("hold(0) = true  hold(1) = true  hold(2) = true")
            .reads(Edges.APART).asks("restore(0) = false  restore(1) = false  restore(2) = false  count(11) = 0");
        EDGES.test(44, "it is held still behind a text with a FAULT", Edges.PAIR).asks("nights(3) = 3  hold(0) = true  nights(1) = 4")
            .reads("hours 1;", 5, 6).asks("restore(0) = true  count(3) = 3");
        EDGES.test(44, "of a new object")
            .asks("hold(2) = true  nights(9) = 9  restore(2) = true  count(3) = 0  undo() = false");
    }

    // ---- promise 45

    private static void count() {
        EDGES.full(45, "NONE for others").asks("""
            count(-1) = NONE  count(17) = NONE  count(18) = NONE  count(32) = NONE  count(MIN) = NONE  count(MAX) = NONE""");
        EDGES.full(45, "each of them").asks("""
            count(0) = 8  count(1) = 2  count(2) = 3  count(3) = 2  count(4) = 4  count(5) = 7  count(6) = 33
            count(7) = 2  count(8) = 20  count(9) = 4  count(10) = 2  count(11) = 2  count(12) = 3  count(13) = 0
            count(14) = 1  count(15) = 0  count(16) = 4""");
        EDGES.test(45, "NONE for others, of a new object")
            .asks("count(-1) = NONE  count(17) = NONE  count(MIN) = NONE  count(MAX) = NONE");
    }

    private static void countBits() {
        EDGES.test(45, "who comes: all, none", FIVE_ALIKE + "comes = night;")
            .asks("count(5) = 0  nights(1) = 1  count(5) = 31");
        EDGES.test(45, "who comes: the last", FIVE_ALIKE + "comes = which - 3;").asks("count(5) = 16");
        String allDay = "hours 24; dial a 5 7; goer p a 3 24; goer q a 9 24;";
        EDGES.test(45, "hours at which nobody is: none; two or more: all", allDay)
            .asks("count(6) = 0  count(13) = 16777215");
        EDGES.test(45, "hours at which nobody is: all; two or more: none", allDay + "comes = 0;")
            .asks("count(6) = 16777215  count(13) = 0");
        EDGES.test(45, "hours at which one is", "hours 24; dial a 5 7; goer p a 3 24;")
            .asks("count(6) = 0  count(13) = 0");
        EDGES.test(45, "the first and the last hour", "hours 24; dial a 0 0; goer p a 23 2; goer q a 23 2;")
            .asks("count(6) = 8388606  count(13) = 8388609");
        EDGES.test(45, "2 HOURS", "hours 2; dial a 0 0; goer p a 1 1; goer q a 1 1;")
            .asks("count(6) = 1  count(13) = 2");
        String four = "hours 8; dial a 0 0; dial b 0 1; dial c 0 7; dial d 0 4;";
        EDGES.test(45, "DIALS with an ECLIPSE: all", four + "dims = 100;").asks("count(7) = 15");
        EDGES.test(45, "DIALS with an ECLIPSE: none", four).asks("count(7) = 0");
        EDGES.test(45, "DIALS with an ECLIPSE: the last", four + "dims = if which < 3 then 0 else 100;")
            .asks("count(7) = 8");
        EDGES.test(45, "6, 13: no ECLIPSE looked at", Edges.GARDEN + "dims = 100; seed 7;")
            .asks("count(6) = 163  count(13) = 24");
        EDGES.test(45, "DIALS that are OUT by 0", four).asks("""
            count(12) = 15  nights(1) = 1  count(12) = 1  nights(1) = 2  count(12) = 9  turn(0, 1) = 1  count(12) = 8
            nights(6) = 8  count(12) = 14""");
        EDGES.test(45, "DIALS by which nobody goes: all", four).asks("count(15) = 15");
        EDGES.test(45, "DIALS by which nobody goes", four + "goer p a 0 1; goer q d 0 1;").asks("""
            count(15) = 6  follow(0, 1) = true  count(15) = 5  follow(1, 1) = true  count(15) = 13  undo() = true
            count(15) = 5""");
        EDGES.test(45, "DIALS by which nobody goes: none",
            four + "goer p a 0 1; goer q b 0 1; goer r c 0 1; goer s d 0 1;")
            .asks("count(15) = 0");
    }

    private static void countSizes() {
        EDGES.test(45, "together: nobody", FIVE_ALIKE).asks("count(4) = 0  count(14) = 0  count(16) = 31");
        EDGES.test(45, "together: all", FIVE_ALIKE).asks("""
            nights(1) = 1  count(4) = 10  count(14) = 10  count(16) = 0  nights(200) = 201  count(4) = 2010  count(14) = 10""");
        EDGES.test(45, "together: two of three", Edges.PAIR + "goer r a 4 1;")
            .asks("nights(3) = 3  count(4) = 3  count(14) = 1  count(16) = 4");
        EDGES.test(45, "together so far, not this night", Edges.PAIR + "comes = 1 - night;")
            .asks("nights(3) = 3  count(13) = 0  count(4) = 1  count(14) = 1  count(16) = 0");
        EDGES.test(45, "HOURS, DIALS, GOERS: the most", "hours 24; dial a 0 0; dial b 0 0; dial c 0 0; dial d 0 0;"
            + "goer p a 0 1; goer q a 0 1; goer r a 0 1; goer s a 0 1; goer t a 0 1;")
                .asks("count(0) = 24  count(1) = 4  count(2) = 5");
        EDGES.test(45, "HOURS, DIALS, GOERS: the fewest", "hours 2;").asks("count(0) = 2  count(1) = 0  count(2) = 0");
        EDGES.test(45, "bytes on the tape: none")
            .asks("count(8) = 0  feed(0, 0, 0, 0, 0) = 20  count(8) = 20  back(20) = 0  count(8) = 0");
        EDGES.test(45, "bytes on the tape: the most").feeds(" ".repeat(2000))
            .asks("count(8) = 2000  read() = 0  count(8) = 0");
        Run run = EDGES.test(45, "things that can be undone: 0 .. 40", Edges.PAIR).asks("count(9) = 0");
        for (int i = 1; i <= 42; i++) {
            run.asks("nights(1) = " + i + "  count(9) = " + Math.min(40, i));
        }
        run = EDGES.test(45, "TOLD ones: 0 .. 20", Edges.PAIR).asks("count(10) = 0");
        for (int i = 0; i < 20; i++) {
            run.asks("tell(0, 0, true) = " + i + "  count(10) = " + (i + 1));
        }
        run.asks("tell(0, 0, true) = NONE  count(10) = 20  forget() = 20  count(10) = 0");
        EDGES.test(45, "SLOTS that hold something: how many", Edges.PAIR).asks("""
            count(11) = 0  hold(2) = true  count(11) = 1  hold(2) = true  count(11) = 1  hold(1) = true  count(11) = 2
            hold(0) = true  count(11) = 3  restore(0) = true  count(11) = 3""");
    }
}
