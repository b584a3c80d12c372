/** The boundary cases of promises 36 to 38: what comes by seeds. The lots were worked out apart from the program. */
public final class SeedEdgesTest {
    private static final Edges EDGES = new Edges("SeedEdgesTest");
    /** Each night shows both dials as if OUT by a lot of 0 and 1: p and q meet if these are alike. */
    private static final String LOTS = "hours 2; dial a 0 0; dial b 0 0; goer p a 0 1; goer q b 0 1; dims = 100; ";

    private SeedEdgesTest() {
    }

    public static void main(String[] args) {
        metIn();
        outIn();
        year();
        yearBySeeds();
        EDGES.end(36, 38);
    }

    private static void metIn() {
        EDGES.full(36, "NONE: no such ones").asks("""
            metIn(-1, 1) = NONE  metIn(3, 1) = NONE  metIn(MIN, 1) = NONE  metIn(MAX, 1) = NONE  metIn(0, -1) = NONE
            metIn(0, 201) = NONE  metIn(0, MIN) = NONE  metIn(0, MAX) = NONE  metIn(3, 201) = NONE
            metIn(0, 0) = 4  metIn(1, 0) = 4  metIn(2, 0) = 0""");
        EDGES.test(36, "IN n NIGHTS (0 .. 200), so far and by then", Edges.PAIR).asks("""
            metIn(0, 0) = 0  metIn(0, 1) = 1  metIn(1, 199) = 199  metIn(1, 200) = 200  metIn(1, 201) = NONE
            nights(5) = 5  metIn(0, 0) = 5  metIn(0, 1) = 6  metIn(0, 200) = 205  goer(0, 6) = 5  count(3) = 5""");
        EDGES.test(36, "with others: 1 for the hour", Edges.PAIR + "goer r a 0 1;")
            .asks("metIn(0, 1) = 1  metIn(2, 200) = 200");
        EDGES.test(36, "with others: none", Edges.APART).asks("metIn(0, 200) = 0  metIn(1, 200) = 0");
        EDGES.test(36, "the last of 200 NIGHTS", Edges.PAIR + "comes = night - 198;")
            .asks("metIn(0, 199) = 0  metIn(0, 200) = 1");
        EDGES.test(36, "the night behind 200", Edges.PAIR + "comes = night - 199;").asks("metIn(0, 200) = 0");
        // As in the nights of NowEdgesTest, with eclipses.
        EDGES.test(36, "with ECLIPSES", Edges.GARDEN + "dims = 50; seed 7;").asks("""
            metIn(0, 1) = 2  metIn(0, 2) = 4  metIn(0, 3) = 4  metIn(0, 4) = 5  metIn(0, 5) = 7  metIn(2, 3) = 0
            metIn(2, 4) = 1  metIn(1, 5) = 6  count(3) = 0  count(4) = 0""");
    }

    private static void outIn() {
        EDGES.full(37, "NONE: no such ones").asks("""
            outIn(-1, 0) = NONE  outIn(2, 0) = NONE  outIn(MIN, 0) = NONE  outIn(MAX, 0) = NONE  outIn(0, -1) = NONE
            outIn(0, 201) = NONE  outIn(0, MIN) = NONE  outIn(0, MAX) = NONE  outIn(2, 201) = NONE
            outIn(0, 0) = 0  outIn(1, 0) = 0  outIn(1, 1) = 5  outIn(1, 2) = 2""");
        EDGES.test(37, "IN n NIGHTS (0 .. 200)", Edges.GARDEN).asks("""
            outIn(1, 0) = 3  outIn(1, 1) = 5  outIn(1, 2) = 7  outIn(1, 3) = 1  outIn(1, 199) = 1  outIn(1, 200) = 3
            outIn(1, 201) = NONE  outIn(0, 200) = 0  dial(1, 0) = 3""");
        EDGES.test(37, "24 HOURS", "hours 24; dial a 23 23; dial b 0 0; dial c 23 1; dial d 0 23;").asks("""
            outIn(0, 1) = 22  outIn(0, 200) = 15  outIn(1, 200) = 0  outIn(2, 1) = 0  outIn(2, 200) = 7  outIn(3, 1) = 23
            outIn(3, 200) = 16  outIn(4, 1) = NONE""");
        EDGES.test(37, "2 HOURS", "hours 2; dial a 1 1;").asks("outIn(0, 0) = 1  outIn(0, 1) = 0  outIn(0, 200) = 1");
        EDGES.test(37, "no ECLIPSE looked at", Edges.GARDEN + "dims = 100; seed 7;").asks("""
            dial(1, 3) = 1  outIn(1, 0) = 3  outIn(1, 1) = 5  outIn(0, 1) = 0""");
    }

    private static void year() {
        EDGES.full(38, "NONE: no such ones, one and the same").asks("""
            year(-1, 0, 1, 1) = NONE  year(0, -1, 1, 1) = NONE  year(3, 0, 1, 1) = NONE  year(0, 3, 1, 1) = NONE
            year(0, 0, 1, 1) = NONE  year(2, 2, 1, 1) = NONE  year(MIN, 0, 1, 1) = NONE  year(0, MAX, 1, 1) = NONE
            year(0, 1, -1, 1) = NONE  year(0, 1, 201, 1) = NONE  year(0, 1, MIN, 1) = NONE  year(0, 1, MAX, 1) = NONE
            year(0, 1, 1, 0) = NONE  year(0, 1, 1, -1) = NONE  year(0, 1, 1, 21) = NONE  year(0, 1, 1, MIN) = NONE
            year(0, 1, 1, MAX) = NONE  year(0, 1, 201, 21) = NONE""");
        EDGES.test(38, "s SEEDS (1 .. 20): always", Edges.PAIR).asks("""
            year(0, 1, 0, 1) = 1  year(1, 0, 0, 2) = 2  year(0, 1, 0, 19) = 19  year(0, 1, 200, 20) = 20
            year(0, 1, 0, 0) = NONE  year(0, 1, 0, 21) = NONE""");
        EDGES.test(38, "s SEEDS (1 .. 20): never", Edges.APART).asks("year(0, 1, 0, 20) = 0  year(0, 1, 200, 20) = 0");
        EDGES.test(38, "the NIGHT behind n (0 .. 200): behind 200", Edges.PAIR + "comes = night - 199;").asks("""
            year(0, 1, 199, 20) = 0  year(0, 1, 200, 20) = 20  year(0, 1, 201, 20) = NONE""");
        EDGES.test(38, "the NIGHT behind n (0 .. 200): behind 201", Edges.PAIR + "comes = night - 200;").asks("""
            year(0, 1, 200, 20) = 0  nights(1) = 1  year(0, 1, 200, 20) = 20""");
        EDGES.test(38, "the NIGHT behind n (0 .. 200): this one", Edges.PAIR + "comes = 1 - night;").asks("""
            year(0, 1, 0, 20) = 20  year(0, 1, 1, 20) = 0""");
        EDGES.test(38, "at any hour", "hours 8; dial a 0 0; goer p a 3 5; goer q a 7 1;").asks("year(0, 1, 0, 1) = 1");
    }

    /** A sign for each seed, whether they meet by it: what s seeds come to is how many 1s stand ahead. */
    private static void bySeeds(int seed, int n, String met) {
        bySeeds("by s SEEDS from the text's SEED on", "", seed, n, met);
    }

    private static void bySeeds(String told, String law, int seed, int n, String met) {
        Run run = EDGES.test(38, told + ": " + seed + ", behind " + n, LOTS + law + "seed " + seed + ";");
        int sum = 0;
        for (int s = 1; s <= 20; s++) {
            sum += met.charAt(s - 1) - '0';
            run.asks("year(0, 1, " + n + ", " + s + ") = " + sum);
        }
    }

    private static void yearBySeeds() {
        bySeeds(0, 0, "00100010010100000100");
        bySeeds(0, 200, "00100010010000000010");
        bySeeds(7, 0, "00101000001000000000");
        bySeeds(7, 1, "11000100000010110110");
        bySeeds(7, 199, "00001100010000111110");
        bySeeds(7, 200, "00100000000100000000");
        bySeeds(9985, 1, "10110000110010110001");
        bySeeds(9999, 0, "00100000100001000101");
        bySeeds(9999, 200, "01100010000001100111");
        // Who has met comes no more: the nights until then go by each seed too.
        String nights = "NIGHTS go by each SEED";
        bySeeds(nights, "comes = 1 - met;", 0, 2, "00000000000001000000");
        bySeeds(nights, "comes = 1 - met;", 0, 4, "00000000000000001010");
        bySeeds(nights, "comes = 1 - met;", 7, 2, "00000010000000000000");
        bySeeds(nights, "comes = 1 - met;", 7, 4, "00000000010100000000");
        bySeeds(nights, "comes = 1 - met;", 9999, 4, "00000000001000000000");
    }
}
