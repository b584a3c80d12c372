import java.util.Arrays;
import java.util.List;

/** The boundary cases of promises 1 to 5: a new object, the tape, texts and their faults. */
public final class TextEdgesTest {
    private static final Edges EDGES = new Edges("TextEdgesTest");
    private static final String WORDS = "hours dial goer comes stays worth dims seed if then else "
        + "night out slip from long met which day goers";
    private static final String FOUR_DIALS = "dial a 0 0; dial b 1 0; dial c 2 0; dial d 3 0; ";
    private static final String FIVE_GOERS =
        "dial a 0 0; goer p a 0 1; goer q a 1 1; goer r a 2 1; goer s a 3 1; goer t a 4 1; ";

    private TextEdgesTest() {
    }

    public static void main(String[] args) {
        newObject();
        feed();
        back();
        readAndTape();
        lengthOfAText();
        blanks();
        signs();
        names();
        ints();
        hours();
        dials();
        goers();
        lawsAndSeed();
        syntax();
        syntaxOfLaws();
        textsEnd();
        firstFault();
        roomOfTokens();
        roomOfSorts();
        roomOfLaws();
        twice();
        name();
        wrong();
        faultyTexts();
        newTexts();
        smallerTexts();
        textsInARow();
        place();
        EDGES.end(1, 5);
    }

    private static String blanks(int n) {
        return " ".repeat(n);
    }

    /** A text read by a new object: its fault and the place of that. */
    private static void reads(String text, int fault, int place) {
        MoonDials x = new MoonDials();
        String told = text.length() > 70 ? text.substring(0, 70) + ".. (" + text.length() + ")" : text;
        EDGES.is("read() of " + told, Texts.read(x, text), fault);
        EDGES.is("place() of " + told, x.place(), place);
    }

    private static void reads(String text) {
        reads(text, 0, -1);
    }

    // ---- promise 1

    private static void newObject() {
        EDGES.test(1, "a night of 12 HOURS").asks("""
            count(0) = 12  count(6) = 4095
            there(-1) = NONE  there(0) = 0  there(11) = 0  there(12) = NONE
            tell(0, -1, true) = NONE  tell(0, 11, true) = 0  tell(0, 12, true) = NONE""");
        EDGES.test(1, "no DIALS").asks("""
            count(1) = 0  count(7) = 0  count(12) = 0  count(15) = 0  round() = 1
            dial(0, 0) = NONE  dial(0, 1) = NONE  dial(0, 2) = NONE  dial(0, 3) = NONE  shows(0, 0) = NONE
            turn(0, 1) = NONE  slip(0, 1) = false  follow(0, 0) = false  right(0) = NONE  agree(0, 0) = NONE
            turns(0, 3, 1) = NONE  parts(0, 3, 1) = NONE  knot(0, 3, 3, 1) = NONE  mend(0, 3, 1) = NONE
            game(0, 1, 0) = NONE  outIn(0, 0) = NONE""");
        EDGES.test(1, "no GOERS").asks("""
            count(2) = 0  count(4) = 0  count(5) = 0  count(13) = 0  count(14) = 0  count(16) = 0
            goer(0, 0) = NONE  goer(0, 6) = NONE  together(0, 1) = NONE  meet(0, 0) = NONE  meet(3, 0) = NONE
            often(0, 1, 1) = NONE  alone(0, 1) = NONE  earns(0, 1) = NONE  sooner(0) = -2  sooner(1) = -2
            strangers(0) = NONE  by(0, 1, 1, 0) = NONE  peace(60, 0) = 0  peace(60, 1) = 0
            favourite(60, 0) = 0  favourite(60, 1) = 0  longest(0, 1, 1) = NONE  couples(60, NONE) = 0
            couples(60, 0) = NONE  fullest(0) = 0  fullest(1) = 0  metIn(0, 0) = NONE  year(0, 1, 0, 1) = NONE
            fits(0, 0, 0) = NONE  look(0, 0, 0) = NONE""");
        EDGES.test(1, "nothing is done, told, held or fed yet").asks("""
            count(3) = 0  count(8) = 0  count(9) = 0  count(10) = 0  count(11) = 0  place() = NONE
            undo() = false  restore(0) = false  restore(1) = false  restore(2) = false  back(1) = NONE  forget() = 0""");
        MoonDials x = new MoonDials();
        EDGES.test(1, "an object is used for at most 512 calls");
        for (int i = 1; i < 512; i++) {
            EDGES.is("nights(200), call " + i, x.nights(200), 200L * i);
        }
        EDGES.is("the 512th call", x.count(3), 102200);
    }

    // ---- promise 2

    private static void feed() {
        for (int one : new int[] {1, 127, 128, 255}) {
            EDGES.test(2, "twenty bytes, the highest of a first");
            for (int at = 0; at < 20; at++) {
                char[] signs = blanks(20).toCharArray();
                signs[at] = (char) one;
                reads(new String(signs), 1, at);
            }
        }
        // "hour" "s 7;" "hour" "s 8;" and four blanks.
        EDGES.test(2, "twenty bytes, the highest of a first").asks("""
            feed(1752135026, 1931491131, 1752135026, 1931491387, 538976288) = 20  read() = 0  count(0) = 8""");
        EDGES.test(2, "come behind the tape").asks("""
            feed(538976288, 538976288, 538976288, 538976288, 538976288) = 20
            feed(0, 538976288, 538976288, 538976288, 538976288) = 40  read() = 1  place() = 20""");
        EDGES.test(2, "come behind the tape: back on an empty one").asks("""
            feed(0, 0, 0, 0, 0) = 20  read() = 1  feed(538976288, 538976288, 538976288, 538976288, 0) = 20
            read() = 1  place() = 16""");
        MoonDials x = new MoonDials();
        EDGES.test(2, "how many it has");
        for (int i = 1; i <= 100; i++) {
            EDGES.is("feed " + i, x.feed(i, -i, 0, Integer.MIN_VALUE, Integer.MAX_VALUE), 20 * i);
        }
        for (int size : new int[] {1960, 1979, 1980}) {
            EDGES.test(2, "nothing comes if it would have more than 2,000: " + size).feeds(blanks(size)).asks("""
                feed(0, 0, 0, 0, 0) =\s""" + (size + 20) + "  count(8) = " + (size + 20)
                + "  read() = 1  place() = " + size);
        }
        for (int size : new int[] {1981, 1999, 2000}) {
            EDGES.test(2, "nothing comes if it would have more than 2,000: " + size).feeds(blanks(size)).asks("""
                feed(0, 0, 0, 0, 0) = NONE  feed(0, 0, 0, 0, 0) = NONE  count(8) =\s""" + size
                + "  read() = 0  feed(0, 0, 0, 0, 0) = 20");
        }
        EDGES.full(2, "twenty bytes come: none of them is lost").asks("""
            feed(-1, -1, -1, -1, -1) = 40  back(20) = 20  read() = 0  count(0) = 9  count(1) = 1""");
    }

    // ---- promise 3

    private static void back() {
        EDGES.test(3, "the last n bytes of the tape go").feeds("hours 7;hours 8;").asks("""
            back(8) = 8  read() = 0  count(0) = 7""");
        EDGES.test(3, "the last n bytes of the tape go: one").feeds("hours 7;x").asks("""
            back(1) = 8  read() = 0  count(0) = 7""");
        EDGES.test(3, "the last n bytes of the tape go: other ones come in their place").feeds("hours 7;")
            .asks("back(2) = 6").feeds("9;").asks("count(8) = 8  read() = 0  count(0) = 9");
        EDGES.test(3, "how many it has: none go").feeds("hours 7;").asks("back(0) = 8  read() = 0  count(0) = 7");
        EDGES.test(3, "NONE if it has not so many").feeds("hours 7;").asks("""
            back(9) = NONE  back(10) = NONE  back(2000) = NONE  back(MAX) = NONE  back(7) = 1  back(2) = NONE
            back(1) = 0  back(1) = NONE  back(0) = 0""");
        EDGES.test(3, "NONE if n is below 0").feeds("hours 7;").asks("""
            back(-1) = NONE  back(-8) = NONE  back(MIN) = NONE  back(0) = 8""");
        EDGES.test(3, "an empty tape").asks("back(-1) = NONE  back(0) = 0  back(1) = NONE  back(MIN) = NONE");
        EDGES.test(3, "a full tape").feeds(blanks(2000)).asks("""
            back(2001) = NONE  back(1999) = 1  back(1) = 0  count(8) = 0""");
        EDGES.test(3, "a full tape goes at once").feeds(blanks(2000)).asks("back(2000) = 0  read() = 0");
        EDGES.full(3, "NONE, and nothing goes")
            .asks("back(21) = NONE  back(-1) = NONE  back(MIN) = NONE  back(MAX) = NONE");
    }

    // ---- promise 4: the tape and the text as a whole

    private static void readAndTape() {
        EDGES.test(4, "the tape is empty then: behind a text").feeds("hours 7;").asks("""
            count(8) = 8  read() = 0  count(8) = 0  read() = 0  count(0) = 12""");
        EDGES.test(4, "the tape is empty then: behind a FAULT").feeds("hours 7").asks("""
            count(8) = 7  read() = 1  count(8) = 0  back(1) = NONE  count(0) = 12""");
        EDGES.test(4, "an empty text").asks("read() = 0  count(0) = 12  count(1) = 0  count(2) = 0");
        EDGES.test(4, "an empty text in place of another one", Edges.GARDEN).asks("""
            count(0) = 8  read() = 0  count(0) = 12  count(1) = 0  count(2) = 0  count(6) = 4095""");
        EDGES.test(4, "0, or the number of its FAULT");
        reads("hours 7;", 0, -1);
        reads("hours 7;;", 1, 8);
        reads(FOUR_DIALS + "dial e 0 0;", 2, FOUR_DIALS.length());
        reads("dial a 0 0; dial a 0 0;", 3, 17);
        reads("goer p a 0 1;", 4, 7);
        reads("hours 25;", 5, 6);
    }

    private static void lengthOfAText() {
        EDGES.test(4, "a TEXT has 2,000 bytes at most").feeds("hours 7;" + blanks(1984) + "hours 9;").asks("""
            count(8) = 2000  read() = 0  count(0) = 9""");
        EDGES.test(4, "a TEXT of 1,999 bytes").feeds("hours 7;" + blanks(1983) + "hours 9;").asks("""
            count(8) = 1999  read() = 0  count(0) = 9""");
        EDGES.test(4, "its last byte, its end");
        reads(blanks(1999) + ";", 1, 1999);
        reads(blanks(1999) + "\u00ff", 1, 1999);
        reads(blanks(1995) + "hours", 1, 2000);
        reads("hours" + blanks(1995), 1, 2000);
        reads("x".repeat(2000), 1, 0);
        reads("hours " + "7".repeat(1994), 1, 6);
        reads("dial " + "z".repeat(1995), 1, 5);
        reads(blanks(2000), 0, -1);
    }

    private static boolean isBlank(int one) {
        return one == 9 || one == 10 || one == 13 || one == 32;
    }

    private static boolean isLetter(int one) {
        return one >= 97 && one <= 122;
    }

    private static boolean isDigit(int one) {
        return one >= 48 && one <= 57;
    }

    private static void blanks() {
        EDGES.test(4, "blanks (9, 10, 13, 32) between or not");
        for (int one = 0; one < 256; one++) {
            String text = "hours" + (char) one + "7;";
            if (isBlank(one) || one == '0' || one == '1') {
                reads(text);
            } else if (isDigit(one)) {
                reads(text, 5, 5);
            } else {
                reads(text, 1, isLetter(one) ? 0 : 5);
            }
        }
        reads("hours7;dial a0 0;goer p a 0 1;comes=1;");
        reads("\t\n\r hours \t 7 \n ; \r");
        reads("hours 1 2;", 1, 8);
        reads("h ours 7;", 1, 0);
    }

    private static void signs() {
        EDGES.test(4, "SIGNS ; = + - * / < ( )");
        for (int one = 0; one < 256; one++) {
            String text = "worth=8" + (char) one + "2;";
            if (isDigit(one) || "+-*/".indexOf(one) >= 0) {
                reads(text);
            } else {
                reads(text, 1, isBlank(one) || one == ';' ? 8 : 7);
            }
        }
        reads("worth=(8);");
        reads("worth=if 1<2 then 3 else 4;");
    }

    private static void names() {
        EDGES.test(4, "NAMES (letters a .. z ..)");
        for (int one = 0; one < 256; one++) {
            String text = "dial " + (char) one + " 0 0;";
            if (isLetter(one)) {
                reads(text);
            } else {
                reads(text, 1, isBlank(one) ? 7 : 5);
            }
        }
        EDGES.test(4, "NAMES (.. 8 at most ..)");
        for (int length = 1; length <= 40; length++) {
            String name = "x".repeat(length);
            reads("dial " + name + " 0 0;", length > 8 ? 1 : 0, length > 8 ? 5 : -1);
            reads("dial a 0 0; goer " + name + " a 0 1;", length > 8 ? 1 : 0, length > 8 ? 17 : -1);
            int fault = length > 8 ? 1 : length == 1 ? 0 : 4;
            reads("dial x 0 0; goer p " + name + " 0 1;", fault, fault == 0 ? -1 : 19);
        }
        EDGES.test(4, "NAMES (.. 8 at most ..): the eighth letter tells them apart",
            "dial abcdefgh 1 0; dial abcdefgi 2 0; dial abcdefg 3 0; goer p abcdefgi 0 1; goer q abcdefg 0 1;"
            + "goer r abcdefgh 0 1;").asks("goer(0, 0) = 1  goer(1, 0) = 2  goer(2, 0) = 0");
        EDGES.test(4, "NAMES (.. none of the words in quotes)");
        for (String word : WORDS.split(" ")) {
            reads("dial " + word + " 0 0;", 1, 5);
            reads("dial a 0 0; goer " + word + " a 0 1;", 1, 17);
            reads("dial a 0 0; goer p " + word + " 0 1;", 1, 19);
            reads("dial " + word + "x 0 0; goer x" + word + " " + word + "x 0 1;");
        }
        for (String word : "text tell law part unit var name int e hour el els the nigh ou da goe".split(" ")) {
            reads("dial " + word + " 0 0;");
        }
        EDGES.test(4, "TOKENS, the longest that can be");
        reads("hourseven;", 1, 0);
        reads("dialing 0 0;", 1, 0);
        reads("worth = if1<2then3else4;");
        reads("worth = ifout<2then3else4;", 1, 8);
        reads("worth = 1+nightout;", 1, 10);
    }

    private static void ints() {
        EDGES.test(4, "INTS (1 to 4 digits)");
        for (int length = 1; length <= 20; length++) {
            String zeros = "0".repeat(length);
            String nines = "9".repeat(length);
            reads("seed " + zeros + ";", length > 4 ? 1 : 0, length > 4 ? 5 : -1);
            reads("seed " + nines + ";", length > 4 ? 1 : 0, length > 4 ? 5 : -1);
            reads("worth = " + nines + ";", length > 4 ? 1 : 0, length > 4 ? 8 : -1);
        }
        reads("seed 10000;", 1, 5);
        reads("hours 00012;", 1, 6);
        EDGES.test(4, "INTS (1 to 4 digits): zeros ahead", "hours 0009; dial a 003 0001; goer p a 02 0024;").asks("""
            count(0) = 9  dial(0, 0) = 3  dial(0, 1) = 1  goer(0, 1) = 2  goer(0, 2) = 24""");
        EDGES.test(4, "INTS of a LAW, 0 .. 9999",
            "dial a 0 0; goer p a 0 1; goer q a 0 1; worth = if 9998 < 9999 then 0 else 5; comes = 9999 - 9998;")
            .asks("goer(0, 5) = 0  goer(0, 3) = 1");
        for (int one = 0; one < 256; one++) {
            String text = "seed " + (char) one + ";";
            reads(text, isDigit(one) ? 0 : 1, isDigit(one) ? -1 : isBlank(one) ? 6 : 5);
        }
    }

    // ---- promise 4: what is told

    private static void hours() {
        EDGES.test(4, "HOURS of a night 2 .. 24");
        for (int hours = 0; hours <= 40; hours++) {
            boolean isOne = hours >= 2 && hours <= 24;
            reads("hours " + hours + ";", isOne ? 0 : 5, isOne ? -1 : 6);
        }
        reads("hours 9999;", 5, 6);
        for (int hours : new int[] {2, 3, 23, 24}) {
            EDGES.test(4, "HOURS of a night: " + hours, "hours " + hours + ";").asks("count(0) = " + hours
                + "  count(6) = " + ((1 << hours) - 1) + "  there(" + (hours - 1) + ") = 0  there(" + hours + ") = NONE");
        }
        EDGES.test(4, "HOURS of a night (12 ..)", "dial a 13 11;")
            .asks("count(0) = 12  dial(0, 0) = 1  dial(0, 1) = 11");
        EDGES.test(4, "HOURS of a night (.. the last one)", "hours 24; hours 2; hours 7;").asks("count(0) = 7");
        EDGES.test(4, "HOURS of a night (.. the last one): each must be right");
        reads("hours 1; hours 7;", 5, 6);
        reads("hours 7; hours 25;", 5, 15);
    }

    private static void dials() {
        EDGES.test(4, "DIALS, 4 at most");
        reads("dial a 0 0; dial b 1 0; dial c 2 0; ");
        reads(FOUR_DIALS);
        reads(FOUR_DIALS + "dial e 0 0;", 2, FOUR_DIALS.length());
        EDGES.test(4, "DIALS: numbered from 0 on as they stand", FOUR_DIALS).asks("""
            count(1) = 4  dial(0, 0) = 0  dial(1, 0) = 1  dial(2, 0) = 2  dial(3, 0) = 3  dial(4, 0) = NONE""");
        EDGES.test(4, "how far it is OUT, its SLIP, 0 .. 23 each");
        for (int n : new int[] {0, 1, 22, 23}) {
            reads("dial a " + n + " 0;");
            reads("dial a 0 " + n + ";");
        }
        for (int n : new int[] {24, 25, 99, 100, 9999}) {
            reads("dial a " + n + " 0;", 5, 7);
            reads("dial a 0 " + n + ";", 5, 9);
        }
        EDGES.test(4, "OUT and SLIP: their rests by HOURS", "hours 5; dial a 4 5; dial b 5 4; dial c 6 23; dial d 23 6;")
            .asks("""
                dial(0, 0) = 4  dial(1, 0) = 0  dial(2, 0) = 1  dial(3, 0) = 3
                dial(0, 1) = 0  dial(1, 1) = 4  dial(2, 1) = 3  dial(3, 1) = 1""");
        EDGES.test(4, "their rests by HOURS: the last ones, told behind", "hours 24; dial a 23 13; hours 2; hours 12;")
            .asks("dial(0, 0) = 11  dial(0, 1) = 1");
        EDGES.test(4, "their rests by HOURS: 24", "hours 24; dial a 23 23;").asks("dial(0, 0) = 23  dial(0, 1) = 23");
        EDGES.test(4, "their rests by HOURS: 2", "hours 2; dial a 23 22;").asks("dial(0, 0) = 1  dial(0, 1) = 0");
    }

    private static void goers() {
        EDGES.test(4, "GOERS, 5 at most");
        reads("dial a 0 0; goer p a 0 1; goer q a 1 1; goer r a 2 1; goer s a 3 1;");
        reads(FIVE_GOERS);
        reads(FIVE_GOERS + "goer u a 0 1;", 2, FIVE_GOERS.length());
        EDGES.test(4, "GOERS: numbered from 0 on as they stand", FIVE_GOERS).asks("""
            count(2) = 5  goer(0, 1) = 0  goer(1, 1) = 1  goer(2, 1) = 2  goer(3, 1) = 3  goer(4, 1) = 4
            goer(5, 1) = NONE""");
        EDGES.test(4, "FROM which hour of it 0 .. 23");
        for (int n : new int[] {0, 1, 22, 23}) {
            reads("dial a 0 0; goer p a " + n + " 1;");
        }
        for (int n : new int[] {24, 25, 9999}) {
            reads("dial a 0 0; goer p a " + n + " 1;", 5, 21);
        }
        EDGES.test(4, "FROM: its rest by HOURS",
            "hours 5; dial a 0 0; goer p a 4 1; goer q a 5 1; goer r a 6 1; goer s a 23 1;")
            .asks("goer(0, 1) = 4  goer(1, 1) = 0  goer(2, 1) = 1  goer(3, 1) = 3");
        EDGES.test(4, "FROM: its rest by HOURS told behind", "hours 24; dial a 0 0; goer p a 23 1; hours 3;")
            .asks("goer(0, 1) = 2");
        EDGES.test(4, "how LONG 1 .. 24");
        for (int n : new int[] {1, 2, 23, 24}) {
            reads("dial a 0 0; goer p a 0 " + n + ";");
        }
        for (int n : new int[] {0, 25, 26, 9999}) {
            reads("dial a 0 0; goer p a 0 " + n + ";", 5, 23);
        }
        EDGES.test(4, "how LONG is no rest", "hours 2; dial a 0 0; goer p a 0 24; goer q a 0 2; goer r a 0 3;")
            .asks("goer(0, 2) = 24  goer(1, 2) = 2  goer(2, 2) = 3");
        EDGES.test(4, "the DIAL by which they go", FOUR_DIALS + "goer p d 0 1; goer q a 0 1; goer r c 0 1;")
            .asks("goer(0, 0) = 3  goer(1, 0) = 0  goer(2, 0) = 2");
    }

    private static void lawsAndSeed() {
        EDGES.test(4, "LAWS if not told", "hours 8; dial a 0 0; goer p a 0 3; goer q a 0 8; goer r a 0 9;").asks("""
            goer(0, 3) = 1  goer(0, 4) = 3  goer(1, 4) = 8  goer(2, 4) = 8  goer(0, 5) = 1  dial(0, 2) = 0""");
        EDGES.test(4, "LAWS: the last one", "dial a 0 0; goer p a 0 3; comes = 1; comes = 0; stays = 1; stays = 2;"
            + "worth = 3; worth = 4; dims = 5; dims = 6;").asks("""
            goer(0, 3) = 0  goer(0, 4) = 2  goer(0, 5) = 4  dial(0, 2) = 6""");
        EDGES.test(4, "LAWS if not told: none is left of the text ahead", "comes = 0; stays = 1; worth = 2; dims = 100;")
            .reads("dial a 0 0; goer p a 0 3;")
            .asks("goer(0, 3) = 1  goer(0, 4) = 3  goer(0, 5) = 1  dial(0, 2) = 0");
        // LOT 100 of 0 and 0 is 16, of 7 and 0 it is 83, of 9999 and 0 it is 39.
        EDGES.test(4, "SEED (0)", "dial a 0 0; dims = 16;").asks("dial(0, 3) = 0");
        EDGES.test(4, "SEED (0)", "dial a 0 0; dims = 17;").asks("dial(0, 3) = 1");
        EDGES.test(4, "SEED 0", "dial a 0 0; dims = 16; seed 0;").asks("dial(0, 3) = 0");
        EDGES.test(4, "SEED 0", "dial a 0 0; dims = 17; seed 0;").asks("dial(0, 3) = 1");
        EDGES.test(4, "SEED 9999", "dial a 0 0; dims = 39; seed 9999;").asks("dial(0, 3) = 0");
        EDGES.test(4, "SEED 9999", "dial a 0 0; dims = 40; seed 9999;").asks("dial(0, 3) = 1");
        EDGES.test(4, "SEED: the last one", "dial a 0 0; seed 7; dims = 83; seed 0; seed 7;").asks("dial(0, 3) = 0");
        EDGES.test(4, "SEED: the last one", "dial a 0 0; seed 7; dims = 83; seed 0;").asks("dial(0, 3) = 1");
        EDGES.test(4, "SEED (0): none is left of the text ahead", "seed 7;").reads("dial a 0 0; dims = 17;")
            .asks("dial(0, 3) = 1");
    }

    // ---- promise 4: faults of form

    /** Behind a text's beginning, these tokens can come, and no others. */
    private static void goesOn(String ahead, String tokens) {
        List<String> can = Arrays.asList(tokens.split(" "));
        String all = WORDS + " name 7 ; = + - * / < ( ) . 10000 longnames A";
        for (String token : all.split(" ")) {
            String kind = "night out slip from long met which day goers".contains(token) && !token.equals("goer")
                ? "VAR" : token;
            boolean goesOn = can.contains(kind) || can.contains("UNIT") && (kind.equals("VAR") || "7(".contains(token));
            String text = ahead + " " + token;
            int fault = goesOn && token.equals(";") ? 0 : 1;
            reads(text, fault, fault == 0 ? -1 : goesOn ? text.length() : ahead.length() + 1);
        }
    }

    private static void syntax() {
        EDGES.test(4, "SYNTAX: a TOKEN, or what is none, with which no text goes on");
        goesOn("", "hours dial goer comes stays worth dims seed");
        goesOn("hours 7;", "hours dial goer comes stays worth dims seed");
        goesOn("hours", "7");
        goesOn("hours 7", ";");
        goesOn("seed", "7");
        goesOn("seed 7", ";");
        goesOn("dial", "name");
        goesOn("dial a", "7");
        goesOn("dial a 1", "7");
        goesOn("dial a 1 2", ";");
        goesOn("dial a 1 2; goer", "name");
        goesOn("dial a 1 2; goer p", "name");
        goesOn("dial a 1 2; goer p a", "7");
        goesOn("dial a 1 2; goer p a 3", "7");
        goesOn("dial a 1 2; goer p a 3 4", ";");
    }

    private static void syntaxOfLaws() {
        EDGES.test(4, "SYNTAX of LAWS");
        for (String law : "comes stays worth dims".split(" ")) {
            goesOn(law, "=");
            goesOn(law + " =", "if UNIT");
            goesOn(law + " = 1", "+ - * / ;");
            goesOn(law + " = if", "UNIT");
            goesOn(law + " = if 1", "+ - * / <");
            goesOn(law + " = if 1 <", "UNIT");
            goesOn(law + " = if 1 < 2", "+ - * / then");
            goesOn(law + " = if 1 < 2 then", "UNIT");
            goesOn(law + " = if 1 < 2 then 3", "+ - * / else");
            goesOn(law + " = if 1 < 2 then 3 else", "if UNIT");
            goesOn(law + " = if 1 < 2 then 3 else 4", "+ - * / ;");
        }
        for (String sign : "+ - * /".split(" ")) {
            goesOn("comes = out " + sign, "UNIT");
            goesOn("comes = out " + sign + " 2", "+ - * / ;");
            goesOn("comes = (out " + sign, "UNIT");
            goesOn("comes = (out " + sign + " 2", "+ - * / )");
        }
        goesOn("comes = (", "UNIT");
        goesOn("comes = (1", "+ - * / )");
        goesOn("comes = (1)", "+ - * / ;");
        goesOn("comes = ((1)", "+ - * / )");
        goesOn("comes = if (1", "+ - * / )");
        goesOn("comes = if (1)", "+ - * / <");
        goesOn("comes = if 1 < (2", "+ - * / )");
        goesOn("comes = if 1 < 2 then (3", "+ - * / )");
        goesOn("comes = if 1 < 2 then 3 else (4", "+ - * / )");
    }

    private static void textsEnd() {
        EDGES.test(4, "the text's end: its length");
        String[] tokens = ("hours 7 ; dial a 1 2 ; goer p a 3 4 ; comes = if night < ( 2 + out ) * 3 then met else long ; "
            + "seed 5 ;").split(" ");
        StringBuilder text = new StringBuilder();
        for (String token : tokens) {
            text.append(text.length() == 0 ? "" : " ").append(token);
            boolean isWhole = token.equals(";");
            for (String behind : new String[] {"", " ", "\n\t\r "}) {
                String cut = text + behind;
                reads(cut, isWhole ? 0 : 1, isWhole ? -1 : cut.length());
            }
        }
    }

    private static void firstFault() {
        EDGES.test(4, "the first by its place");
        reads("hours 7 hours ( ) .", 1, 8);
        reads(". hours", 1, 0);
        reads(FOUR_DIALS + "dial . 0 0;", 2, FOUR_DIALS.length());
        reads(". " + FOUR_DIALS + "dial e 0 0;", 1, 0);
        reads("comes = (((((((.", 2, 14);
        reads("comes = ((((((.(", 1, 14);
        reads("comes = 1; comes = (((((((1))))))) ; " + FOUR_DIALS + "dial e 0 0;", 2, 25);
        EDGES.test(4, "the first by its place: TWICE, NAME and WRONG likewise");
        reads("hours 1; dial a 0 0; dial a 0 0; goer p z 0 1;", 5, 6);
        reads("dial a 0 0; dial a 0 0; hours 1; goer p z 0 1;", 3, 17);
        reads("goer p z 0 1; dial p 0 0; hours 1;", 4, 7);
        reads("dial a 0 0; goer a z 24 25;", 3, 17);
        reads("dial a 0 0; goer p z 24 25;", 4, 19);
        reads("dial a 0 0; goer p a 24 25;", 5, 21);
        reads("dial a 24 25;", 5, 7);
        EDGES.test(4, "if there is none of 1 and 2");
        reads("hours 1", 1, 7);
        reads("hours 1; dial a 0 0; dial a 0 0; goer p z 0 0; .", 1, 47);
        reads("hours 1; " + FOUR_DIALS + "dial e 0 0;", 2, 9 + FOUR_DIALS.length());
        reads("goer p z 0 1; comes = (((((((1)))))));", 2, 28);
        // Ten tokens and 390 more.
        reads("dial a 0 0; dial a 0 0; " + "seed 7;".repeat(140), 2, 24 + 7 * 130);
    }

    private static void roomOfTokens() {
        // Three tokens each: 399 in all, one hour's text being "hours 7;".
        String full = "hours 7;".repeat(133);
        EDGES.test(4, "ROOM: a 401st TOKEN: 399 and 400 are not");
        reads(full);
        reads(full + " hours", 1, full.length() + 6);
        reads("hours 7;".repeat(132) + "comes=1;");
        reads("hours 7;".repeat(132) + "comes=1;  ");
        reads("hours 7;".repeat(132) + "comes=1", 1, 8 * 132 + 7);
        reads("comes=" + "1+".repeat(198) + "1;");
        EDGES.test(4, "ROOM: a 401st TOKEN");
        reads(full + "hours 7", 2, full.length() + 6);
        reads(full + "hours 7;", 2, full.length() + 6);
        reads(full + "hours 7; & nonsense", 2, full.length() + 6);
        reads("hours 7;".repeat(132) + "comes=1; seed 1;", 2, 8 * 132 + 9);
        reads("comes=" + "1+".repeat(199) + "1;", 2, 6 + 2 * 199);
        reads("comes=" + "1+".repeat(198) + "1+1;", 2, 6 + 2 * 198 + 2);
        reads("hours 7;".repeat(133) + "comes=1;", 2, 8 * 133 + 5);
        EDGES.test(4, "of one place the least: a 401st TOKEN with which no text goes on is SYNTAX");
        reads(full + "hours hours", 1, full.length() + 6);
        reads(full + "hours ;", 1, full.length() + 6);
        reads(full + "hours .", 1, full.length() + 6);
        reads(full + "hours 10000", 1, full.length() + 6);
        reads(full + "dial longnames", 1, full.length() + 5);
        reads("hours 7;".repeat(132) + "comes=1; x", 1, 8 * 132 + 9);
        reads("comes=" + "1+".repeat(199) + ";", 1, 6 + 2 * 199);
        reads("comes=" + "1+".repeat(198) + "1;.", 1, 6 + 2 * 198 + 2);
        EDGES.test(4, "a 401st TOKEN behind the text's fault");
        reads("hours 7;".repeat(132) + "comes=1 x", 1, 8 * 132 + 8);
        reads(". " + full + full, 1, 0);
    }

    private static void roomOfSorts() {
        EDGES.test(4, "ROOM: one more of a sort than told (at its first TOKEN)");
        reads(FOUR_DIALS + " dial", 2, FOUR_DIALS.length() + 1);
        reads(FOUR_DIALS + " dial 7", 2, FOUR_DIALS.length() + 1);
        reads(FOUR_DIALS + "hours 7; dial e 0 0;", 2, FOUR_DIALS.length() + 9);
        reads(FIVE_GOERS + " goer", 2, FIVE_GOERS.length() + 1);
        reads(FIVE_GOERS + "dial b 0 0; dial c 0 0; dial d 0 0; goer u a 0 1;", 2, FIVE_GOERS.length() + 36);
        reads(FIVE_GOERS + "dial b 0 0; dial c 0 0; dial d 0 0; dial e 0 0;", 2, FIVE_GOERS.length() + 36);
        reads(FOUR_DIALS + "goer p a 0 1; goer q a 0 1; goer r a 0 1; goer s a 0 1; goer t a 0 1;");
        EDGES.test(4, "ROOM: the sorts of which any number is told");
        reads("hours 7;".repeat(133));
        reads("seed 7;".repeat(133));
        reads("comes=1;stays=1;worth=1;dims=1;".repeat(25));
        EDGES.test(4, "ROOM: a DIAL told twice counts for two");
        reads("dial a 0 0; dial a 0 0; dial a 0 0; dial a 0 0; dial a 0 0;", 2, 48);
        reads("dial a 0 0; dial a 0 0; dial a 0 0; dial a 0 0; ", 3, 17);
    }

    private static void roomOfLaws() {
        String one = "if 1 < 2 then 3 else ";
        for (String law : "comes stays worth dims".split(" ")) {
            EDGES.test(4, "ROOM: a 5th if of a LAW (at it)");
            String ahead = law + " = ";
            reads(ahead + one.repeat(3) + "4;");
            reads(ahead + one.repeat(4) + "4;");
            reads(ahead + one.repeat(5) + "4;", 2, ahead.length() + 4 * one.length());
            reads(ahead + one.repeat(4) + "if", 2, ahead.length() + 4 * one.length());
            reads(ahead + one.repeat(4) + "if .", 2, ahead.length() + 4 * one.length());
            reads((ahead + one.repeat(4) + "4; ").repeat(4));
        }
        EDGES.test(4, "ROOM: a 7th ( within one another (at it)");
        for (int depth = 1; depth <= 12; depth++) {
            String text = "comes = " + "(".repeat(depth) + "1" + ")".repeat(depth) + ";";
            reads(text, depth > 6 ? 2 : 0, depth > 6 ? 14 : -1);
        }
        reads("comes = (((((((", 2, 14);
        reads("comes = ((((((", 1, 14);
        reads("comes = " + "((((((1)))))) + ".repeat(3) + "((((((1))))));");
        reads("comes = (((((( 1 )+( 2 )))*( 3 ))));", 0, -1);
        reads("comes = (((((( 1 )+( ( 2 ) )))*( 3 ))));", 2, 21);
        reads("comes = if ((((((1)))))) < ((((((1)))))) then ((((((1)))))) else ((((((1))))));");
        reads("comes = if 1 < (((((((1))))))) then 1 else 2;", 2, 21);
        reads("comes = 1 + (2 + (3 + (4 + (5 + (6 + (7 + (8 + 9)))))));", 2, 42);
    }

    // ---- promise 4: faults of sense

    private static void twice() {
        EDGES.test(4, "TWICE: a NAME told already (of DIALS and GOERS together)");
        reads("dial a 0 0; dial a 0 0;", 3, 17);
        reads("dial a 0 0; dial b 0 0; dial c 0 0; dial a 0 0;", 3, 41);
        reads("dial a 0 0; dial b 0 0; dial c 0 0; dial c 0 0;", 3, 41);
        reads("dial a 0 0; goer a a 0 1;", 3, 17);
        reads("dial a 0 0; goer p a 0 1; goer p a 0 1;", 3, 31);
        reads("dial a 0 0; goer p a 0 1; dial p 0 0;", 3, 31);
        String five = FIVE_GOERS.replace("goer t", "goer p");
        reads(five, 3, five.lastIndexOf('p'));
        five = FIVE_GOERS.replace("goer t", "goer s");
        reads(five, 3, five.lastIndexOf('s'));
        reads("dial abcdefgh 0 0; dial abcdefgh 0 0;", 3, 24);
        EDGES.test(4, "TWICE: NAMES that are not alike");
        reads("dial a 0 0; dial aa 0 0; dial aaa 0 0; dial b 0 0; goer c a 0 1; goer ab a 0 1;");
        reads("dial abcdefgh 0 0; dial abcdefgi 0 0; dial bbcdefgh 0 0;");
        EDGES.test(4, "TWICE: nothing of a text ahead is told already", "dial a 0 0; goer p a 0 1;")
            .reads("dial p 0 0; goer a p 0 1;").reads("dial a 0 0; goer p a 0 1;");
        EDGES.test(4, "TWICE: nothing of a text with a FAULT is told already").reads("dial a 0 0; hours 1;", 5, 18)
            .reads("dial a 0 0;");
    }

    private static void name() {
        EDGES.test(4, "NAME: (at it) no such DIAL told ahead");
        reads("goer p a 0 1;", 4, 7);
        reads("goer p a 0 1; dial a 0 0;", 4, 7);
        reads("dial b 0 0; goer p a 0 1; dial a 0 0;", 4, 19);
        reads("goer p p 0 1;", 4, 7);
        reads("dial a 0 0; goer p a 0 1; goer q p 0 1;", 4, 33);
        reads("dial a 0 0; goer p p 0 1;", 4, 19);
        reads("dial a 0 0; goer p aa 0 1;", 4, 19);
        reads("dial a 0 0; goer p a 0 1; dial b 0 0; goer q b 0 1;");
        EDGES.test(4, "NAME: no DIAL of the text ahead", "dial a 0 0;").reads("goer p a 0 1;", 4, 7);
        EDGES.test(4, "NAME: no DIAL of a text with a FAULT").reads("dial a 0 0; hours 1;", 5, 18)
            .reads("goer p a 0 1;", 4, 7);
    }

    private static void wrong() {
        EDGES.test(4, "WRONG (at the INT)");
        reads("hours   1;", 5, 8);
        reads("hours 0001;", 5, 6);
        reads("dial a   24 0;", 5, 9);
        reads("dial a 0   24;", 5, 11);
        reads("dial a 0 0; goer p a  24 1;", 5, 22);
        reads("dial a 0 0; goer p a 0  0;", 5, 24);
        reads("dial a 0 0; goer p a 0  25;", 5, 24);
        EDGES.test(4, "WRONG: no number of a LAW and no SEED is");
        reads("seed 0; seed 9999; worth = 9999 + 0; dims = 9999; stays = 9999; comes = 9999;");
    }

    private static void faultyTexts() {
        EDGES.full(4, "a text with a FAULT changes nothing but the tape").refuses("hours 5; x", 1, 9)
            .refuses("hours 5; dial q 1 1;" + blanks(3) + "comes = 0; dims = 100; seed 9; .", 1, 54)
            .refuses("hours 5; " + FOUR_DIALS + "dial e 0 0;", 2, 9 + FOUR_DIALS.length())
            .refuses("hours 5; comes = 0; dims = 100; dial q 1 1; dial q 1 1;", 3, 49)
            .refuses("hours 5; comes = 0; dims = 100; goer q z 1 1;", 4, 39)
            .refuses("hours 5; comes = 0; dims = 100; hours 1;", 5, 38)
            .refuses("hours 5; dial q 7 7; goer r q 7 7; seed 3; dial s 24 0;", 5, 50);
    }

    private static void newTexts() {
        EDGES.full(4, "else it is in place of the one ahead").asks("""
            count(3) = 2  count(4) = 4  count(9) = 4  count(10) = 2  count(11) = 2
            read() = 0  place() = NONE
            count(0) = 9  count(1) = 1  count(2) = 0  count(3) = 0  count(4) = 0  count(8) = 0
            count(9) = 0  count(10) = 0  count(11) = 0
            undo() = false  restore(0) = false  restore(1) = false  restore(2) = false  forget() = 0
            dial(0, 0) = 1  dial(0, 1) = 1  dial(0, 2) = 0  dial(1, 0) = NONE  goer(0, 0) = NONE""");
        EDGES.test(4, "night 0, nobody met anybody, all as told", Edges.GARDEN).asks("""
            nights(5) = 5  turn(0, 1) = 1  follow(0, 1) = true  slip(1, 0) = true""").reads(Edges.GARDEN).asks("""
            count(3) = 0  count(4) = 0  count(14) = 0  count(16) = 7  together(0, 1) = 0  goer(0, 6) = 0
            dial(0, 0) = 0  dial(1, 0) = 3  dial(1, 1) = 2  goer(0, 0) = 0  undo() = false""");
    }

    /** Most of all there can be, then little: all that the first text had more of would be seen. */
    private static void smallerTexts() {
        String large = "hours 8; dial a 1 1; dial b 4 3; dial c 0 5; dial d 2 7; goer p d 0 8; goer q c 0 8; goer r b 0 8;"
            + "goer s a 0 8; goer t d 0 8; comes = 1; stays = 8; worth = 9; dims = 100; seed 9999;";
        EDGES.test(4, "else it is in place of the one ahead: no more DIALS and GOERS than it tells", large).asks("""
            nights(3) = 3  count(4) = 240""").reads("hours 8; dial z 1 0; goer x z 0 1; goer y z 5 1;").asks("""
            count(1) = 1  count(2) = 2  count(4) = 0  count(5) = 3  count(6) = 111  count(7) = 0  count(12) = 0
            count(13) = 0  count(14) = 0  count(15) = 0  count(16) = 3  there(7) = 1  there(4) = 2  there(0) = 0
            round() = 1  sooner(0) = -2  strangers(0) = 2  by(0, 1, 200, 0) = 0  by(0, 1, 200, 1) = 0
            alone(0, 8) = 8  earns(0, 200) = 0  peace(60, 0) = 0  favourite(60, 1) = 0  couples(60, NONE) = 0
            fullest(0) = 4  fullest(1) = 1  metIn(0, 200) = 0  fits(0, 0, 1) = 1  nights(200) = 200  count(4) = 0
            dial(0, 0) = 1  dial(0, 1) = 0  dial(1, 0) = NONE  goer(2, 0) = NONE""");
        EDGES.test(4, "else it is in place of the one ahead: by no DIAL that was", large.replace("dims = 100;", ""))
            .asks("there(0) = 31").reads("hours 8; dial z 1 0; goer x z 0 1; goer y z 5 1;")
            .asks("by(0, 1, 200, 0) = 0  by(0, 1, 200, 1) = 0  fits(0, 0, 1) = 1  fits(0, 0, 0) = 1");
        EDGES.test(4, "else it is in place of the one ahead: no DIALS and GOERS", large).reads("hours 8;").asks("""
            round() = 1  count(5) = 0  count(6) = 255  count(7) = 0  count(12) = 0  count(15) = 0  count(16) = 0
            there(0) = 0  fullest(1) = 0  peace(1, 0) = 0  couples(1, NONE) = 0  nights(9) = 9  count(4) = 0""");
    }

    private static void textsInARow() {
        String text = "dial a 0 0; goer p a 0 1; worth = 2 * (3 + 1) - 1;";
        for (String broken : new String[] {"comes = 2 * (3 + (4 -", "worth = ((((((1 + 2 *", "dims = if 1 < (2 * (3 +",
            "worth = (((((((", "dial a 0 0; goer p a 0 1; worth = 5; dims = 1 +"}) {
            Run run = EDGES.test(4, "nothing is left of a text with a FAULT").feeds(broken);
            run.asks("read() = " + (broken.endsWith("(((((((") ? 2 : 1)).reads(text).asks("goer(0, 5) = 7  dial(0, 2) = 0");
        }
        EDGES.test(4, "as long as LAWS can be, one text in place of the other");
        MoonDials x = new MoonDials();
        for (int i = 1; i <= 9; i++) {
            String law = "1+".repeat(194) + "1";
            EDGES.is("read() " + i, Texts.read(x, "dial a 0 0;dims=" + law + "-" + (100 + i) + ";"), 0);
            EDGES.is("dial(0, 2) of text " + i, x.dial(0, 2), 95 - i);
            EDGES.is("count(1) of text " + i, x.count(1), 1);
        }
    }

    // ---- promise 5

    private static void place() {
        EDGES.test(5, "NONE without: no read yet").asks("place() = NONE").feeds(".").asks("place() = NONE");
        EDGES.test(5, "NONE without").reads("hours 7;").asks("place() = NONE");
        EDGES.test(5, "the byte of the latest read()'s FAULT: the first byte").reads(".", 1, 0).asks("place() = 0");
        EDGES.test(5, "the byte of the latest read()'s FAULT: the last byte").reads("hours .", 1, 6);
        EDGES.test(5, "the byte of the latest read()'s FAULT: the text's end").reads("hours 7", 1, 7);
        EDGES.test(5, "the byte of the latest read()'s FAULT: the end of 2,000").reads(blanks(1995) + "hours", 1, 2000);
        EDGES.test(5, "the latest read()").reads("hours 7; .", 1, 9).asks("place() = 9").feeds("hours 1;").asks("""
            place() = 9  back(8) = 0  place() = 9  nights(1) = 1  undo() = true  place() = 9  hold(0) = true
            restore(0) = true  place() = 9  read() = 0  place() = NONE""").reads("hours 1;", 5, 6)
            .reads("hours 7;", 0, -1);
        EDGES.test(5, "NONE without: an empty text behind a FAULT").reads(".", 1, 0).asks("read() = 0  place() = NONE");
    }
}
