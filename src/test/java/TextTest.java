/** Promises 1 to 5: a new object, the tape, and texts with their faults. */
public final class TextTest {
    private static final Due DUE = new Due("TextTest");

    private TextTest() {
    }

    public static void main(String[] args) {
        newObject();
        feedAndBack();
        readAndPlace();
        tokens();
        syntax();
        room();
        sense();
        whatATextChanges();
        rests();
        DUE.end();
    }

    private static void newObject() {
        MoonDials x = new MoonDials();
        DUE.is("new count(0)", x.count(0), 12);
        for (int what : new int[] {1, 2, 3, 4, 5, 7, 8, 9, 10, 11, 12, 13, 14, 15, 16}) {
            DUE.is("new count(" + what + ")", x.count(what), 0);
        }
        DUE.is("new count(6)", x.count(6), 4095);
        DUE.is("new place", x.place(), -1);
        DUE.is("NONE", MoonDials.NONE, -1);
    }

    private static void feedAndBack() {
        MoonDials x = new MoonDials();
        for (int i = 1; i <= 100; i++) {
            DUE.is("feed " + i, x.feed(-1, 0, 1, 2, 3), 20 * i);
        }
        DUE.is("feed over 2000", x.feed(1, 2, 3, 4, 5), -1);
        DUE.is("size", x.count(8), 2000);
        DUE.is("back(19)", x.back(19), 1981);
        DUE.is("feed at 1981", x.feed(0, 0, 0, 0, 0), -1);
        DUE.is("back(0)", x.back(0), 1981);
        DUE.is("back(1)", x.back(1), 1980);
        DUE.is("feed at 1980", x.feed(0, 0, 0, 0, 0), 2000);
        DUE.is("back(2001)", x.back(2001), -1);
        DUE.is("back(-1)", x.back(-1), -1);
        DUE.is("back(min)", x.back(Integer.MIN_VALUE), -1);
        DUE.is("back(max)", x.back(Integer.MAX_VALUE), -1);
        DUE.is("back(2000)", x.back(2000), 0);
        DUE.is("back(1) of none", x.back(1), -1);
    }

    private static void readAndPlace() {
        MoonDials x = new MoonDials();
        DUE.is("empty read", x.read(), 0);
        DUE.is("empty place", x.place(), -1);
        Texts.feed(x, "hours 7; hour");
        DUE.is("fed", x.count(8), 13);
        DUE.is("read", x.read(), 1);
        DUE.is("tape is empty behind a fault", x.count(8), 0);
        DUE.is("place", x.place(), 9);
        DUE.is("place again", x.place(), 9);
        DUE.is("nothing changed", x.count(0), 12);
        Texts.feed(x, "hours 7;");
        DUE.is("place stays while feeding", x.place(), 9);
        DUE.is("read", x.read(), 0);
        DUE.is("tape is empty behind a text", x.count(8), 0);
        DUE.is("place without", x.place(), -1);
        DUE.is("hours", x.count(0), 7);
    }

    private static void fault(String text, int number, int place) {
        MoonDials x = new MoonDials();
        String told = text.length() > 60 ? text.substring(0, 60) + ".." + text.length() : text;
        DUE.is("read of " + told, Texts.read(x, text), number);
        DUE.is("place of " + told, x.place(), place);
    }

    private static void right(String text) {
        fault(text, 0, -1);
    }

    private static void tokens() {
        right(" \t\r\n ");
        right("hours7;dial\tabcdefgh\r1\n2;goer x abcdefgh0 1;");
        right("dial text 0 0;");
        right("comes=1+2*3/(4-out)<5;".replace("<5", ""));
        right("hours 0007;");
        fault("hours 7", 1, 7);
        fault("hours 7  ", 1, 9);
        fault("hours 00007;", 1, 6);
        fault("dial abcdefghi 0 0;", 1, 5);
        fault("Hours 7;", 1, 0);
        fault("hours 7.", 1, 7);
        fault("hours 7;.", 1, 8);
        fault("hours 7;\u00ff", 1, 8);
        fault("hours 7;\u0000", 1, 8);
        fault("hours 7;\u000b", 1, 8);
        fault("hours\u00a07;", 1, 5);
        fault("hours 7; a_b", 1, 9);
        fault("hours -7;", 1, 6);
        fault("hours 1 2;", 1, 8);
    }

    private static void syntax() {
        fault(";", 1, 0);
        fault("hours", 1, 5);
        fault("7", 1, 0);
        fault("name", 1, 0);
        for (String word : ("hours dial goer comes stays worth dims seed if then else night out slip from long met which "
            + "day goers").split(" ")) {
            fault("dial " + word + " 0 0;", 1, 5);
            right("dial " + word.substring(1) + "q 0 0;");
        }
        fault("dial a 0;", 1, 8);
        fault("dial a 0 0 0;", 1, 11);
        fault("dial a 0 0; goer b 0 1;", 1, 19);
        fault("dial a 0 0; goer b a 0;", 1, 22);
        fault("seed;", 1, 4);
        fault("comes 1;", 1, 6);
        fault("comes =;", 1, 7);
        fault("comes = -1;", 1, 8);
        fault("comes = 1 + ;", 1, 12);
        fault("comes = 1 2;", 1, 10);
        fault("comes = x;", 1, 8);
        fault("comes = (1;", 1, 10);
        fault("comes = (1));", 1, 11);
        fault("comes = ();", 1, 9);
        fault("comes = 1 < 2;", 1, 10);
        fault("comes = (1 < 2);", 1, 11);
        fault("comes = (if 1 < 2 then 3 else 4);", 1, 9);
        fault("comes = if 1 then 2 else 3;", 1, 13);
        fault("comes = if 1 < 2 < 3 then 2 else 3;", 1, 17);
        fault("comes = if 1 < 2 then 3;", 1, 23);
        fault("comes = if 1 < 2 then if 1 < 2 then 3 else 4 else 5;", 1, 22);
        fault("comes = if 1 < 2 then 3 else ;", 1, 29);
        fault("comes = if 1 < 2 then 3 else 4", 1, 30);
        fault("comes = 1 + if 1 < 2 then 3 else 4;", 1, 12);
        right("comes = if 1 < 2 then 3 else if out*2 < (day-1)/2 then night else goers;");
        right("stays = long; worth = met+which; dims = from*slip; seed 9999; seed 0;");
    }

    private static String times(String text, int n) {
        return text.repeat(n);
    }

    private static void room() {
        right("dial a 0 0;dial b 0 0;dial c 0 0;dial d 0 0;");
        fault("dial a 0 0;dial b 0 0;dial c 0 0;dial d 0 0; dial e 0 0;", 2, 45);
        fault("dial a 0 0;dial b 0 0;dial c 0 0;dial d 0 0; dial", 2, 45);
        String five = "dial a 0 0;goer b a 0 1;goer c a 0 1;goer d a 0 1;goer e a 0 1;goer f a 0 1;";
        right(five);
        fault(five + "goer g a 0 1;", 2, five.length());
        fault(five + "hours 99;goer g a 0 1;", 2, five.length() + 9);
        right(times("hours 7;", 100));
        right(times("comes=1;", 100));
        String four = "comes = " + times("if 1 < 2 then 3 else ", 4);
        right(four + "4;");
        fault(four + "if 1 < 2 then 3 else 4;", 2, four.length());
        fault(four + "if", 2, four.length());
        right(four + "4; stays = " + times("if 1 < 2 then 3 else ", 4) + "4;");
        right("comes = ((((((1))))));");
        right("comes = ((((((1)))))) + ((((((1))))));");
        right("comes = if ((((((1)))))) < ((((((1)))))) then 1 else ((((((1))))));");
        fault("comes = (((((((1)))))));", 2, 14);
        fault("comes = (((((((", 2, 14);
        fault("comes = (((((()(((((1)))))));", 1, 14);
        fourHundred();
    }

    private static void fourHundred() {
        String full = times("hours 7;", 133);
        right(full);
        fault(full + "hours", 1, full.length() + 5);
        fault(full + "hours 7", 2, full.length() + 6);
        fault(full + "hours x", 1, full.length() + 6);
        fault(full + "hours \u00e9", 1, full.length() + 6);
        fault(full + "hours " + "123456", 1, full.length() + 6);
        fault(full + "hours 7; nonsense &", 2, full.length() + 6);
        // 396 tokens and one tell of four: 400 tokens in all.
        String even = times("hours 7;", 132) + "comes=1;";
        right(even);
        right(even + " ");
        fault(even + " seed", 2, even.length() + 1);
        fault(even + " ;", 1, even.length() + 1);
        fault(even + " q", 1, even.length() + 1);
        String law = "comes=" + times("1+", 198) + "1";
        fault(law + ";", 0, -1);
        fault(law + "+1;", 2, law.length() + 1);
        fault(law + " 1;", 1, law.length() + 1);
    }

    private static void sense() {
        fault("dial a 0 0;dial a 0 0;", 3, 16);
        fault("dial a 0 0;goer a a 0 1;", 3, 16);
        fault("dial a 0 0;goer b a 0 1;goer b a 0 1;", 3, 29);
        fault("dial a 0 0;goer b a 0 1;dial b 0 0;", 3, 29);
        fault("goer b a 0 1;", 4, 7);
        fault("goer b a 0 1;dial a 0 0;", 4, 7);
        fault("goer b b 0 1;", 4, 7);
        fault("dial a 0 0;goer b a 0 1;goer c b 0 1;", 4, 31);
        fault("dial a 24 0;", 5, 7);
        fault("dial a 23 24;", 5, 10);
        right("dial a 23 23;");
        fault("dial a 0 0;goer b a 24 1;", 5, 20);
        fault("dial a 0 0;goer b a 23 0;", 5, 23);
        fault("dial a 0 0;goer b a 23 25;", 5, 23);
        right("dial a 0 0;goer b a 23 24;");
        fault("hours 1;", 5, 6);
        fault("hours 0;", 5, 6);
        fault("hours 25;", 5, 6);
        fault("hours 9999; hours 7;", 5, 6);
        right("hours 2;");
        right("hours 24;");
        // The first by its place, whatever its number.
        fault("hours 1; dial a 0 0; dial a 0 0;", 5, 6);
        fault("dial a 0 0; dial a 99 0;", 3, 17);
        fault("dial a 99 0; dial a 0 0;", 5, 7);
        fault("dial a 0 0; goer a z 99 99;", 3, 17);
        fault("dial a 0 0; goer b z 99 99;", 4, 19);
        // Faults of form come ahead of all of these.
        fault("hours 1; dial", 1, 13);
        fault("dial a 0 0; dial a 0 0; comes = (((((((1)))))));", 2, 38);
    }

    private static void whatATextChanges() {
        String text = "hours 8; dial a 0 0; goer p a 0 1; goer q a 0 2;";
        MoonDials x = Texts.garden(text);
        x.nights(2);
        x.turn(0, 1);
        x.tell(0, 0, true);
        x.hold(1);
        DUE.is("a faulty text", Texts.read(x, "hours 3; hours 1;"), 5);
        DUE.is("hours stay", x.count(0), 8);
        DUE.is("night stays", x.count(3), 2);
        DUE.is("met stays", x.count(4), 2);
        DUE.is("undo stays", x.count(9), 2);
        DUE.is("told stays", x.count(10), 1);
        DUE.is("slots stay", x.count(11), 1);
        DUE.is("a text anew", Texts.read(x, text), 0);
        DUE.is("night", x.count(3), 0);
        DUE.is("met", x.count(4), 0);
        DUE.is("goer 0 met", x.goer(0, 6), 0);
        DUE.is("together", x.together(0, 1), 0);
        DUE.is("out", x.dial(0, 0), 0);
        DUE.is("undo", x.undo(), false);
        DUE.is("told", x.count(10), 0);
        DUE.is("slots", x.count(11), 0);
        DUE.is("restore", x.restore(1), false);
        DUE.is("an empty text", x.read(), 0);
        DUE.is("hours of none", x.count(0), 12);
        DUE.is("dials of none", x.count(1), 0);
        DUE.is("goers of none", x.count(2), 0);
    }

    private static void rests() {
        // HOURS may stand last; the last one counts.
        MoonDials x = Texts.garden("hours 24; dial a 23 13; goer p a 17 24; hours 5;");
        DUE.is("out", x.dial(0, 0), 3);
        DUE.is("slip", x.dial(0, 1), 3);
        DUE.is("from", x.goer(0, 1), 2);
        DUE.is("long", x.goer(0, 2), 24);
        DUE.is("stays", x.goer(0, 4), 5);
        DUE.is("hours", x.count(0), 5);
        MoonDials y = Texts.garden("comes = 1; comes = 0; worth = 5; worth = 6; seed 1; dial a 0 0; goer p a 0 1;");
        DUE.is("the last comes", y.goer(0, 3), 0);
        DUE.is("the last worth", y.goer(0, 5), 6);
    }
}
