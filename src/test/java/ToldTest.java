/** Promises 39 to 45: what is told, what is held, and counts. */
public final class ToldTest {
    private static final Due DUE = new Due("ToldTest");
    private static final String GARDEN =
        "hours 8; dial a 0 0; dial b 3 2; goer p a 2 3; goer q b 6 2; goer r b 1 1;";

    private ToldTest() {
    }

    public static void main(String[] args) {
        tellAndForget();
        fits();
        look();
        holdAndRestore();
        counts();
        DUE.end();
    }

    private static void tellAndForget() {
        MoonDials x = Texts.garden(GARDEN);
        DUE.is("tell 31", x.tell(31, 0, true), -1);
        DUE.is("tell -1", x.tell(-1, 0, true), -1);
        DUE.is("tell hour 8", x.tell(0, 8, true), -1);
        DUE.is("tell hour -1", x.tell(0, -1, true), -1);
        for (int i = 0; i < 20; i++) {
            DUE.is("tell " + i, x.tell(i + 11, i % 8, i % 2 == 0), i);
        }
        DUE.is("tell a 21st", x.tell(0, 0, true), -1);
        DUE.is("20 told", x.count(10), 20);
        DUE.is("forget", x.forget(), 20);
        DUE.is("forget again", x.forget(), 0);
        DUE.is("tell anew", x.tell(30, 7, false), 0);
        x.nights(1);
        x.undo();
        x.hold(0);
        x.restore(0);
        DUE.is("told stays", x.count(10), 1);
    }

    private static void fits() {
        // q by a is at 6, 7 every night; by b at 3, 4, then 1, 2, then 7, 0, then 5, 6.
        MoonDials x = Texts.garden(GARDEN + "dims = 100; seed 3;");
        DUE.is("fits of nothing", x.fits(0, 1, 1), 3);
        x.tell(2, 7, true);
        x.tell(0, 6, false);
        x.tell(4, 3, true);
        x.tell(5, 3, true);
        int[] due = {3, 3, 2, 2, 0};
        for (int k = 0; k < due.length; k++) {
            DUE.is("fits " + k, x.fits(k, 1, 1), due[k]);
            DUE.is("fits many " + k, x.fits(k, 1, 0), Integer.bitCount(due[k]));
        }
        DUE.is("fits 5", x.fits(5, 1, 0), -1);
        DUE.is("fits -1", x.fits(-1, 1, 0), -1);
        DUE.is("fits goer 3", x.fits(1, 3, 0), -1);
        DUE.is("fits goer -1", x.fits(1, -1, 0), -1);
        DUE.is("fits what 2", x.fits(1, 1, 2), -1);
        DUE.is("fits what -1", x.fits(1, 1, -1), -1);
        DUE.is("goer's dial stays", x.goer(1, 0), 1);
        // It is told of nights behind this one, whichever this is.
        x.nights(2);
        DUE.is("fits two nights on", x.fits(1, 1, 1), 1);
    }

    private static void look() {
        MoonDials x = Texts.garden(GARDEN);
        // At 7: by a always, by b behind 2, 6, ..: the first night tells them apart.
        DUE.is("look at 7", x.look(0, 1, 7), 0);
        // At 3: by b this night, by a never.
        DUE.is("look at 3", x.look(0, 1, 3), 0);
        // At 0: by b behind 2 first, by a never.
        DUE.is("look at 0", x.look(0, 1, 0), 2);
        DUE.is("look at 5", x.look(0, 1, 5), 3);
        x.tell(2, 7, true);
        x.tell(0, 6, false);
        x.tell(5, 3, true);
        DUE.is("look as both fit", x.look(1, 1, 0), 2);
        DUE.is("look as one fits", x.look(2, 1, 0), 0);
        DUE.is("look as none fits", x.look(3, 1, 0), -2);
        DUE.is("look 4", x.look(4, 1, 0), -1);
        DUE.is("look -1", x.look(-1, 1, 0), -1);
        DUE.is("look goer 3", x.look(3, 3, 0), -1);
        DUE.is("look goer -1", x.look(3, -1, 0), -1);
        DUE.is("look hour 8", x.look(3, 1, 8), -1);
        DUE.is("look hour -1", x.look(3, 1, -1), -1);
        // At 0: by a always, by b behind 1 too, by c behind 3 too, by d never: two and two first behind 1.
        MoonDials y = Texts.garden("hours 8; dial a 0 0; dial b 7 1; dial c 5 1; dial d 4 0; goer p a 0 1;");
        DUE.is("look for halves", y.look(0, 0, 0), 1);
        // By b and c alike: one and three is the best there is.
        MoonDials w = Texts.garden("hours 8; dial a 0 0; dial b 7 1; dial c 7 1; dial d 4 0; goer p a 0 1;");
        DUE.is("look for a quarter", w.look(0, 0, 0), 0);
        // Only the dials that still fit are told apart.
        y.tell(9, 0, true);
        y.tell(0, 0, false);
        DUE.is("only b fits", y.fits(2, 0, 1), 2);
        DUE.is("a and b fit", y.fits(1, 0, 1), 3);
        DUE.is("look among a and b", y.look(1, 0, 0), 0);
        DUE.is("look among b", y.look(2, 0, 0), 0);
        y.forget();
        y.tell(0, 0, false);
        DUE.is("b, c and d fit", y.fits(1, 0, 1), 14);
        DUE.is("look among b, c and d", y.look(1, 0, 0), 1);
        y.tell(1, 0, false);
        DUE.is("c and d fit", y.fits(2, 0, 1), 12);
        DUE.is("look among c and d", y.look(2, 0, 0), 3);
        MoonDials z = Texts.garden("hours 8; dial a 0 0; dial b 1 0; goer p a 0 1;");
        DUE.is("look in vain", z.look(0, 0, 5), 0);
        MoonDials late = Texts.garden("hours 8; dial a 0 0; dial b 1 0; goer p a 0 1; comes = night - 29;");
        DUE.is("look behind 30", late.look(0, 0, 0), 30);
        MoonDials later = Texts.garden("hours 8; dial a 0 0; dial b 1 0; goer p a 0 1; comes = night - 30;");
        DUE.is("look behind 31", later.look(0, 0, 0), 0);
    }

    private static void holdAndRestore() {
        MoonDials x = Texts.garden(GARDEN);
        DUE.is("restore of nothing", x.restore(0), false);
        DUE.is("hold 3", x.hold(3), false);
        DUE.is("hold -1", x.hold(-1), false);
        DUE.is("restore 3", x.restore(3), false);
        DUE.is("restore -1", x.restore(-1), false);
        DUE.is("hold 2", x.hold(2), true);
        DUE.is("slots", x.count(11), 1);
        x.turn(0, 3);
        x.follow(2, 0);
        x.slip(1, 7);
        x.nights(5);
        x.tell(1, 1, true);
        int met = x.goer(0, 6);
        int pairs = x.count(4);
        DUE.is("hold 0", x.hold(0), true);
        DUE.is("slots", x.count(11), 2);
        DUE.is("undo is left by hold", x.count(9), 4);
        DUE.is("restore 1", x.restore(1), false);
        DUE.is("undo is left by none", x.count(9), 4);
        Texts.feed(x, "hours 3;");
        DUE.is("restore 2", x.restore(2), true);
        DUE.is("night", x.count(3), 0);
        DUE.is("met", x.count(4), 0);
        DUE.is("out", x.dial(0, 0), 0);
        DUE.is("slip", x.dial(1, 1), 2);
        DUE.is("dial of r", x.goer(2, 0), 1);
        DUE.is("nothing to undo", x.undo(), false);
        DUE.is("told stays", x.count(10), 1);
        DUE.is("tape stays", x.count(8), 8);
        x.nights(9);
        DUE.is("restore 0", x.restore(0), true);
        DUE.is("night", x.count(3), 5);
        DUE.is("met", x.goer(0, 6), met);
        DUE.is("pairs", x.count(4), pairs);
        DUE.is("out", x.dial(0, 0), 3);
        DUE.is("slip", x.dial(1, 1), 7);
        DUE.is("dial of r", x.goer(2, 0), 0);
        x.nights(1);
        DUE.is("it stays there", x.restore(0), true);
        DUE.is("night", x.count(3), 5);
        DUE.is("hold anew", x.hold(2), true);
        x.restore(2);
        DUE.is("the newer one", x.count(3), 5);
        DUE.is("slots", x.count(11), 2);
        MoonDials y = new MoonDials();
        DUE.is("hold of none", y.hold(0), true);
        y.nights(4);
        DUE.is("restore of none", y.restore(0), true);
        DUE.is("night of none", y.count(3), 0);
    }

    private static void counts() {
        MoonDials x = Texts.garden(GARDEN + "dial c 5 1; comes = 2 - which; dims = 50; seed 7;");
        int[] due = {8, 3, 3, 0, 0, 3, 0xe3, 2, 0, 0, 0, 0, 1, 24, 0, 4, 7};
        for (int what = 0; what < due.length; what++) {
            DUE.is("count " + what, x.count(what), due[what]);
        }
        DUE.is("count 17", x.count(17), -1);
        DUE.is("count -1", x.count(-1), -1);
        DUE.is("count min", x.count(Integer.MIN_VALUE), -1);
        DUE.is("count max", x.count(Integer.MAX_VALUE), -1);
        MoonDials y = Texts.garden(GARDEN);
        y.nights(2);
        DUE.is("night", y.count(3), 2);
        DUE.is("hours of two", y.count(4), 4);
        DUE.is("two who met", y.count(14), 2);
        DUE.is("who met nobody", y.count(16), 0);
        y.undo();
        y.nights(1);
        DUE.is("hours of two", y.count(4), 2);
        DUE.is("two who met", y.count(14), 1);
        DUE.is("who met nobody", y.count(16), 4);
        y.follow(0, 1);
        DUE.is("by which nobody goes", y.count(15), 1);
        DUE.is("things", y.count(9), 2);
        y.turn(1, 3);
        DUE.is("right dials", y.count(12), 3);
    }
}
