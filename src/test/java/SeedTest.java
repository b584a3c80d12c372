/** Promises 36 to 38: what comes by seeds. The lots were worked out apart from the program. */
public final class SeedTest {
    private static final Due DUE = new Due("SeedTest");
    private static final String GARDEN =
        "hours 8; dial a 0 0; dial b 3 2; goer p a 2 3; goer q b 6 2; goer r b 1 1; dims = 50;";

    private SeedTest() {
    }

    public static void main(String[] args) {
        metIn();
        outIn();
        year();
        DUE.end();
    }

    private static void metIn() {
        MoonDials x = Texts.garden(GARDEN + "seed 7;");
        int[][] met = {{0, 0, 0}, {2, 2, 0}, {4, 4, 0}, {4, 4, 0}, {5, 4, 1}, {7, 6, 1}, {7, 6, 1}, {8, 6, 2}, {8, 6, 2}};
        for (int n = 0; n < met.length; n++) {
            for (int g = 0; g < 3; g++) {
                DUE.is("metIn " + g + " " + n, x.metIn(g, n), met[n][g]);
            }
        }
        x.nights(3);
        DUE.is("so far and by then", x.metIn(0, 2), 7);
        DUE.is("so far", x.metIn(0, 0), 4);
        DUE.is("night", x.count(3), 3);
        DUE.is("metIn 201", x.metIn(0, 201), -1);
        DUE.is("metIn -1", x.metIn(0, -1), -1);
        DUE.is("metIn goer 3", x.metIn(3, 1), -1);
        DUE.is("metIn goer -1", x.metIn(-1, 1), -1);
        int then = x.metIn(1, 200);
        x.nights(200);
        DUE.is("metIn 200", x.goer(1, 6), then);
    }

    private static void outIn() {
        MoonDials x = Texts.garden(GARDEN + "seed 7;");
        int[] out = {3, 5, 7, 1, 3};
        for (int n = 0; n < out.length; n++) {
            DUE.is("outIn " + n, x.outIn(1, n), out[n]);
            DUE.is("outIn a", x.outIn(0, n), 0);
        }
        DUE.is("outIn 200", x.outIn(1, 200), 3);
        DUE.is("outIn 201", x.outIn(1, 201), -1);
        DUE.is("outIn -1", x.outIn(1, -1), -1);
        DUE.is("outIn dial 2", x.outIn(2, 1), -1);
        DUE.is("outIn dial -1", x.outIn(-1, 1), -1);
    }

    private static void years(String told, MoonDials x, int n, String met) {
        int due = 0;
        for (int s = 1; s <= met.length(); s++) {
            due += met.charAt(s - 1) == '1' ? 1 : 0;
            DUE.is(told + " " + s, x.year(0, 1, n, s), due);
        }
    }

    private static void year() {
        MoonDials x = Texts.garden(GARDEN + "seed 7;");
        years("this night", x, 0, "10000011100011100111");
        years("behind 3", x, 3, "00110000001000110010");
        DUE.is("either way", x.year(1, 0, 3, 20), 6);
        DUE.is("no seeds", x.year(0, 1, 3, 0), -1);
        DUE.is("21 seeds", x.year(0, 1, 3, 21), -1);
        DUE.is("-1 nights", x.year(0, 1, -1, 1), -1);
        DUE.is("201 nights", x.year(0, 1, 201, 1), -1);
        DUE.is("of one", x.year(1, 1, 1, 1), -1);
        DUE.is("goer 3", x.year(0, 3, 1, 1), -1);
        DUE.is("goer -1", x.year(-1, 0, 1, 1), -1);
        // Seeds go on beyond 9999.
        years("over 9999", Texts.garden(GARDEN + "seed 9995;"), 0, "11110111110111111010");
        // Who comes goes by who met in the nights until then, which go by each seed too.
        MoonDials shy = Texts.garden(GARDEN + "comes = 2 - (met - met / 3 * 3); seed 7;");
        years("by who met, behind 1", shy, 1, "01111110000010010001");
        years("by who met, behind 3", shy, 3, "00100000000000000000");
        years("by who met, behind 5", shy, 5, "00000010000000000000");
        MoonDials clear = Texts.garden(GARDEN + "dims = 0;");
        DUE.is("no eclipses", clear.year(0, 1, 200, 20), 20);
        DUE.is("no eclipses", clear.year(0, 1, 2, 20), 0);
    }
}
