import java.util.NoSuchElementException;

/** For each promise: ordinary inputs, the edges that the document names, wrong inputs; answers worked out by hand. */
public final class PromiseTest {
    private static int wrong = 0;
    private static int asked = 0;
    private static String promise = "";

    private static void due(String call, long want, long got) {
        asked++;
        if (got != want) {
            wrong++;
            System.out.println(promise + ": " + call + " answered " + got + ", due is " + want);
        }
    }

    private static void due(String call, boolean want, boolean got) {
        due(call, want ? 1 : 0, got ? 1 : 0);
    }

    private static void put(PegLaws x, String text) {
        for (int i = 0; i < text.length(); i += 24) {
            long[] abc = new long[3];
            for (int k = 0; k < 24; k++) {
                abc[k / 8] = abc[k / 8] << 8 | (i + k < text.length() ? text.charAt(i + k) : 0);
            }
            x.feed(abc[0], abc[1], abc[2]);
        }
    }

    private static int line(PegLaws x, String text) {
        put(x, text);
        return x.line();
    }

    private static int day(PegLaws x, String text) {
        put(x, text);
        return x.day();
    }

    private static PegLaws told(String text) {
        PegLaws x = new PegLaws();
        due("line: " + text, 0, line(x, text));
        return x;
    }

    private static String cloth(String name, String kind, int wide, int weight, int worth) {
        return "cloth " + name + " " + kind + " wide " + wide + " weight " + weight + " worth " + worth + " ; ";
    }

    private static void fault(String text, int kind, int place) {
        due("line: " + text, kind + 16 * place, line(new PegLaws(), text));
    }

    /** The fault of a text that stands behind another one, place 0 being its own first sign. */
    private static void faultBehind(String ahead, String text, int kind, int place) {
        fault(ahead + text, kind, ahead.length() + place);
    }

    private static void dayFault(PegLaws x, String text, int kind, int place) {
        due("day: " + text, kind + 16 * place, day(x, text));
    }

    private static void newObject() {
        promise = "promise 1";
        PegLaws x = new PegLaws();
        int[] counts = {0, 0, 20, 20, 0, 3, 0, 0, 0, 0, 0, 0, 0};
        for (int what = 0; what < counts.length; what++) {
            due("count(" + what + ")", counts[what], x.count(what));
        }
        due("undo()", false, x.undo());
        due("mark(0, true)", false, x.mark(0, true));
        due("starts()", 1, x.starts());
        due("laws()", 0, x.laws());
    }

    private static void feed() {
        promise = "promise 2";
        PegLaws x = new PegLaws();
        due("feed of zeroes", 0, x.feed(0, 0, 0));
        // 9, 10, 11, 31, 32, 126, 127, 255: three of them are signs of the TAPE.
        due("feed of edges", 3, x.feed(0x090A0B1F207E7FFFL, 0, 0));
        due("count(12)", 3, x.count(12));
        due("feed of others", 3, x.feed(-1L, Long.MIN_VALUE, 0x8081));
        x = new PegLaws();
        // The highest byte first, a ahead of b ahead of c: 'hour' ';' and a blank.
        due("feed of hour", 6, x.feed('h', (long) 'o' << 56 | 'u', (long) 'r' << 56 | ';' << 8 | ' '));
        due("day()", 0, x.day());
        due("count(9)", 1, x.count(9));
        for (int i = 0; i < 41; i++) {
            x.feed(0x2020202020202020L, 0x2020202020202020L, 0x2020202020202020L);
        }
        due("count(12) of 984", 984, x.count(12));
        due("feed to the end", 1000, x.feed(0x2020202020202020L, 0x2020202020202020L, 0x2020202020202020L));
        due("feed beyond", 1000, x.feed(0x2020202020202020L, 0, 0x41));
        due("line() of blanks", 0, x.line());
        due("count(12) taken", 0, x.count(12));
    }

    private static void lineWords() {
        promise = "promise 3";
        String two = cloth("aa", "plain", 3, 2, 1) + cloth("bb", "wool", 4, 1, 2);
        due("empty", 0, line(new PegLaws(), ""));
        due("tight", 0, line(new PegLaws(), "cloth\naa plain wide 1weight 2worth 3;pegs 1 2;winds 0;yards 0060;gusts 10;"));
        due("word behind word's end by a number", 0, line(new PegLaws(), "yards1;gusts2;pegs3 4;"));
        due("names like facts", 0, line(new PegLaws(), cloth("wind", "flag", 1, 0, 0) + cloth("size", "sheet", 20, 20, 99)
                + cloth("mass", "plain", 1, 1, 1) + "clash wind mass ;"));
        fault("line", 1, 0);
        fault(";", 1, 0);
        fault("  #", 1, 2);
        fault("hang", 1, 0);
        fault("cloth", 1, 5);
        fault("cloth ", 1, 6);
        for (String word : ("cloth wide weight worth pegs winds yards gusts clash pulls dries hang take wash buy hour "
                + "plain sheet flag wool not and or ninelette A 7").split(" ")) {
            fault("cloth " + word, 1, 6);
        }
        fault("cloth eightlet plain wide 0", 4, 26);
        fault("cloth a plain wide 12345", 1, 19);
        fault("cloth a plain wide 1 weight 21", 4, 28);
        fault("cloth a plain wide 1 weight 1 worth 100", 4, 36);
        fault("cloth a plain wide 1 weight 1 worth 1", 1, 37);
        fault("cloth a plain weight", 1, 14);
        fault("cloth a wind", 1, 8);
        String six = two + cloth("c", "flag", 1, 1, 1) + cloth("d", "flag", 1, 1, 1) + cloth("e", "flag", 1, 1, 1)
                + cloth("f", "flag", 1, 1, 1);
        due("six", 0, line(new PegLaws(), six));
        faultBehind(six, "cloth aa", 5, 0);
        faultBehind(two, "cloth aa", 3, 6);
        faultBehind(two, "clash cc", 2, 6);
        faultBehind(two, "clash wide", 1, 6);
        faultBehind(two, "clash aa cc", 2, 9);
        faultBehind(two, "clash aa aa", 3, 9);
        faultBehind(two, "clash aa ;", 1, 9);
        faultBehind(two, "clash aa bb ; clash aa bb", 3, 23);
        faultBehind(two, "clash aa bb ; clash bb aa", 3, 23);
        faultBehind(two, "clash aa bb ; clash bb bb", 3, 23);
        fault("clash aa bb ; " + two, 2, 6);
        fault("pegs ;", 1, 5);
        fault("pegs 0", 4, 5);
        fault("pegs 10", 4, 5);
        fault("pegs 1 2 3 4 5 6 7 8 9", 5, 21);
        fault("pegs 1 2 3 4 5 6 7 8 0", 4, 21);
        fault("winds 1 10", 4, 8);
        fault("winds 0 1 2 3 4 5 6 7 8 9 0 1 2", 5, 30);
        fault("winds 0 1 2 3 4 5 6 7 8 9 0 1 10", 4, 30);
        fault("yards 0", 4, 6);
        fault("yards 61", 4, 6);
        fault("yards 5 5", 1, 8);
        fault("gusts 11", 4, 6);
        for (String once : "pegs 1 ;,winds 1 ;,yards 1 ;,gusts 1 ;,pulls 1 ;,dries 1 ;".split(",")) {
            fault(once + once, 3, once.length());
        }
        PegLaws x = told(two + "pegs 3 3 ; yards 30 ;");
        x.hang(0, 3);
        due("a fault", 1, line(x, "oh"));
        due("all stays", 3, x.cloth(0, 3));
        due("all stays", 1, x.count(11));
        due("the TAPE is taken", 0, x.count(12));
    }

    private static void newLine() {
        promise = "promise 3";
        PegLaws x = told(cloth("aa", "plain", 3, 2, 1) + "pegs 3 3 ; yards 30 ; gusts 4 ; winds 5 ;");
        day(x, "hour ;");
        x.hang(0, 3);
        x.hour();
        x.feel(0, 1, 1);
        x.mark(2, false);
        due("line", 0, line(x, cloth("cc", "plain", 3, 2, 1) + "pegs 7 ;"));
        int[] counts = {1, 1, 20, 20, 0, 3, 0, 0, 0, 0, 0, 0, 0};
        for (int what = 0; what < counts.length; what++) {
            due("count(" + what + ")", counts[what], x.count(what));
        }
        due("mark(2, true)", false, x.mark(2, true));
        due("undo()", false, x.undo());
        due("cloth(0, 1)", 0, x.cloth(0, 1));
        due("cloth(0, 2)", 0, x.cloth(0, 2));
        due("peg(0, 0)", 7, x.peg(0, 0));
        due("empty line", 0, x.line());
        due("count(0)", 0, x.count(0));
    }

    /** The pull of a plain CLOTH, wide 4, weight 3, dry, in a wind of 5. */
    private static void pulls(String e, int want) {
        PegLaws x = told(cloth("a", "plain", 4, 3, 0) + "winds 5 ; pulls " + e + " ;");
        due("pulls " + e, want, x.cloth(0, 7));
    }

    private static void expressions() {
        promise = "promise 3 (E)";
        pulls("wind + size - mass", 6);
        pulls("wind", 5);
        pulls("mass", 3);
        pulls("size", 4);
        pulls("9999", 99);
        pulls("0 - 1", 0);
        pulls("2 + 3 * 4", 14);
        pulls("( 2 + 3 ) * 4", 20);
        pulls("9 - 4 - 3", 2);
        pulls("not 0", 1);
        pulls("not 7", 0);
        pulls("not 0 + 5", 6);
        pulls("not 3 * 5", 0);
        pulls("7 and 8", 1);
        pulls("7 and 0", 0);
        pulls("0 or 8", 1);
        pulls("0 or 0", 0);
        // From the left: ( 1 or 1 ) and 0.
        pulls("1 or 1 and 0", 0);
        pulls("0 and 1 or 1", 1);
        pulls("3 < 4 and 5 = wind", 1);
        pulls("4 < 4", 0);
        pulls("2 + 3 = 5", 1);
        pulls("2 + ( 3 = 3 )", 3);
        // 9999 * 9999 is 99980001, times 22 is 2199560022: as an int below 0.
        pulls("9999 * 9999 * 22", 0);
        pulls("9999 * 9999 * 22 < 0", 1);
        // 4096 * 4096 * 256 is 2 to the 32nd: as an int 0.
        pulls("4096 * 4096 * 256 + 7", 7);
        pulls("( ( ( ( 7 ) ) ) )", 7);
        pulls("not not not not 7", 1);
        pulls("( not ( not wind ) )", 1);
        fault("pulls ;", 1, 6);
        fault("pulls wet", 1, 6);
        fault("pulls 1 2", 1, 8);
        fault("pulls 1 < 2 < 3", 1, 12);
        fault("pulls 1 < 2 = 3", 1, 12);
        fault("pulls ( 1 ;", 1, 10);
        fault("pulls 1 )", 1, 8);
        fault("pulls - 1", 1, 6);
        fault("pulls 1 + ;", 1, 10);
        fault("pulls 12345", 1, 6);
        fault("pulls not and", 1, 10);
        fault("pulls ( ( ( ( ( 1", 5, 16);
        fault("pulls ( ( ( ( ( (", 5, 16);
        fault("pulls ( ( ( ( ( not", 5, 16);
        fault("pulls ( ( ( ( ( wind", 5, 16);
        fault("pulls ( ( ( ( ( ;", 1, 16);
        fault("pulls ( ( ( ( ( wet", 1, 16);
        fault("pulls not ( not ( not 1", 5, 22);
        fault("dries 1 * ( not not not not 1", 5, 28);
    }

    private static void dayWords() {
        promise = "promise 4";
        PegLaws x = told(cloth("aa", "plain", 3, 2, 1) + "pegs 3 3 ;");
        due("day", 0, day(x, "hang aa 0 1;take aa;wash aa;buy 9;hour;"));
        due("count(9)", 5, x.count(9));
        dayFault(x, "hour", 1, 4);
        dayFault(x, "hour 1", 1, 5);
        dayFault(x, "cloth", 1, 0);
        dayFault(x, "hang", 1, 4);
        dayFault(x, "hang hour", 1, 5);
        dayFault(x, "take bb", 2, 5);
        dayFault(x, "wash bb", 2, 5);
        dayFault(x, "hang bb", 2, 5);
        dayFault(x, "hang aa ;", 1, 8);
        dayFault(x, "hang aa 8", 4, 8);
        dayFault(x, "hang aa 7 6 7", 3, 12);
        dayFault(x, "hang aa 0 1 2 3 4", 5, 16);
        dayFault(x, "hang aa 0 1 2 3 3", 3, 16);
        dayFault(x, "hang aa 0 1 2 3 9", 4, 16);
        dayFault(x, "buy 0", 4, 4);
        dayFault(x, "buy 10", 4, 4);
        dayFault(x, "buy ;", 1, 4);
        String thirty = "hour;".repeat(30);
        dayFault(x, thirty + "take", 5, 150);
        dayFault(x, thirty + "wet", 1, 150);
        due("all stays", 5, x.count(9));
        due("thirty", 0, day(x, thirty));
        due("count(9)", 30, x.count(9));
        due("empty", 0, x.day());
        due("count(9)", 0, x.count(9));
    }

    private static void cloths() {
        promise = "promise 5";
        PegLaws x = told(cloth("p", "plain", 7, 3, 5) + cloth("s", "sheet", 8, 2, 6) + cloth("f", "flag", 2, 1, 7)
                + cloth("w", "wool", 20, 4, 8) + "pegs 9 9 9 9 9 9 9 9 ; yards 60 ; winds 5 ;");
        for (int c = 0; c < 4; c++) {
            due("kind", c, x.cloth(c, 0));
            due("pegs of one that is in", 0, x.cloth(c, 3));
            due("room of one that is in", 0, x.cloth(c, 6));
        }
        due("plain's pull", 9, x.cloth(0, 7));
        due("flag's pull", 12, x.cloth(2, 7));
        x.wash(3);
        due("wet", 9, x.cloth(3, 1));
        // 5 + 20 - ( 4 + 18 )
        due("wool's pull", 3, x.cloth(3, 7));
        x.hang(0, 1);
        due("turned", 1, x.cloth(0, 5));
        due("turned is no law", 0, x.cloth(0, 4));
        due("half of 7, cut, and 1", 4, x.cloth(0, 6));
        x.hang(1, 30);
        due("pegs", 30, x.cloth(1, 3));
        due("law", 1, x.cloth(1, 4));
        due("not turned", 0, x.cloth(1, 5));
        due("room", 8, x.cloth(1, 6));
        due("what 8", -1, x.cloth(0, 8));
        due("what -1", -1, x.cloth(0, -1));
        due("cloth 4", -1, x.cloth(4, 0));
        due("cloth -1", -1, x.cloth(-1, 0));
        x = told(cloth("f", "flag", 2, 1, 7) + "pulls 500 ;");
        due("a flag's most", 198, x.cloth(0, 7));
    }

    private static void pegsAndFree() {
        promise = "promises 6, 7";
        PegLaws x = told(cloth("p", "plain", 7, 3, 5) + "pegs 1 1 4 ; pulls 1 ;");
        due("grip", 4, x.peg(2, 0));
        due("holds", -1, x.peg(0, 1));
        due("free", 7, x.free());
        x.hang(0, 3);
        due("holds", 0, x.peg(0, 1));
        due("free", 4, x.free());
        due("others", -2, x.peg(3, 0));
        due("others", -2, x.peg(-1, 0));
        due("others", -2, x.peg(0, 2));
        due("others", -2, x.peg(0, -1));
        // Grips 2, pull 1: nothing. Worn only if twice the pull is MORE than the grips.
        due("hour", 0, x.hour());
        due("grip", 1, x.peg(0, 0));
        PegLaws y = told(cloth("p", "plain", 7, 3, 5) + "pegs 1 1 4 ; pulls 2 ;");
        y.hang(0, 3);
        due("both split: it falls", 1, y.hour());
        due("grip", 0, y.peg(0, 0));
        due("holds none", -1, y.peg(0, 1));
        due("split ones are not free", 4, y.free());
        due("a stain", 1, y.cloth(0, 2));
    }

    private static void lawsAndHanging() {
        promise = "promises 8, 9";
        PegLaws x = told(cloth("p", "plain", 6, 3, 5) + cloth("s", "sheet", 7, 2, 6) + cloth("q", "flag", 6, 0, 1)
                + "pegs 9 9 9 9 9 9 9 ; yards 16 ;");
        due("no pegs", -1, x.hang(0, 0));
        due("three", -1, x.hang(0, 7));
        due("four of a plain one", -1, x.hang(0, 15));
        due("peg not there", -1, x.hang(0, 128));
        due("peg 31", -1, x.hang(0, Integer.MIN_VALUE | 1));
        due("cloth -1", -1, x.hang(-1, 3));
        due("cloth 3", -1, x.hang(3, 3));
        due("none was done", 0, x.count(11));
        due("two", 10, x.hang(0, 3));
        due("it hangs", -1, x.hang(0, 12));
        due("a sheet by two", -1, x.hang(1, 12));
        due("held peg", -1, x.hang(1, 30));
        due("a sheet by four", 3, x.hang(1, 60));
        due("laws", 3, x.laws());
        due("no room for 4", -1, x.hang(2, 64));
        due("taken", true, x.take(0));
        due("half of 6 and 1", 5, x.hang(2, 64));
        due("laws", 2, x.laws());
        due("exactly the room", -1, x.hang(0, 3));
        x = told(cloth("p", "plain", 6, 3, 5) + "pegs 9 9 ; yards 6 ;");
        due("exactly the room", 0, x.hang(0, 3));
    }

    private static void takeWashBuy() {
        promise = "promises 10, 11, 12";
        PegLaws x = told(cloth("p", "plain", 6, 3, 5) + "pegs 1 1 1 1 1 1 ; pulls 3 ;");
        due("in", false, x.take(0));
        due("others", false, x.take(1));
        due("others", false, x.take(-1));
        x.hang(0, 3);
        due("wash one that hangs", -1, x.wash(0));
        due("take", true, x.take(0));
        due("free", 63, x.free());
        due("in", false, x.take(0));
        due("wash", 0, x.wash(0));
        due("wet", 9, x.cloth(0, 1));
        due("others", -1, x.wash(1));
        due("others", -1, x.wash(-1));
        for (int i = 0; i < 3; i++) {
            x.hang(0, 3 << 2 * i);
            due("falls", 1, x.hour());
        }
        due("wash", 3, x.wash(0));
        due("no stains", 0, x.cloth(0, 2));
        due("buy(0)", -1, x.buy(0));
        due("buy(10)", -1, x.buy(10));
        due("buy(1)", 6, x.buy(1));
        due("buy(9)", 7, x.buy(9));
        due("buy a ninth", -1, x.buy(9));
        due("count(1)", 8, x.count(1));
        due("peg(7, 0)", 9, x.peg(7, 0));
        due("free", 192, x.free());
    }

    private static void stainsAndLaw() {
        promise = "promise 8 (stains)";
        PegLaws x = told(cloth("p", "plain", 6, 3, 5) + "pegs 9 9 9 9 9 9 9 9 ; pulls wind * 20 ; winds 9 9 9 9 9 9 9 9 9 9 9 0 ;");
        for (int i = 1; i <= 11; i++) {
            x.hang(0, i % 2 == 0 ? 3 : 12);
            due("law with " + (i - 1) + " stains", i - 1 < 3 ? 1 : 0, x.laws());
            due("falls", 1, x.hour());
            due("stains", Math.min(9, i), x.cloth(0, 2));
        }
        x.hang(0, 16);
        due("turned with 9 stains", 1, x.count(7));
    }

    private static void hours() {
        promise = "promise 13";
        // Sheet by grips 1 2 3 9, pull 8 of 15: worn each hour; then by fewer pegs.
        PegLaws x = told(cloth("s", "sheet", 9, 0, 6) + "pegs 1 2 3 9 ; pulls 8 - wind ; winds 0 2 2 1 ; dries 2 ;");
        x.wash(0);
        x.hang(0, 15);
        due("16 > 15", 0, x.hour());
        due("pegs", 14, x.cloth(0, 3));
        due("no law by three", 0, x.cloth(0, 4));
        due("not turned by three", 0, x.cloth(0, 5));
        due("room of one by three", 9, x.cloth(0, 6));
        due("wet", 7, x.cloth(0, 1));
        due("grip", 8, x.peg(3, 0));
        // Grips 1 + 2 + 8 = 11, pull 6.
        due("12 > 11", 0, x.hour());
        due("pegs", 12, x.cloth(0, 3));
        // Grips 1 + 7 = 8, pull 6.
        due("12 > 8", 0, x.hour());
        due("pegs", 8, x.cloth(0, 3));
        due("turned", 1, x.cloth(0, 5));
        due("half of 9, cut, and 1", 5, x.cloth(0, 6));
        due("wet", 3, x.cloth(0, 1));
        // Grip 6, pull 7.
        due("7 > 6", 1, x.hour());
        due("grip", 5, x.peg(3, 0));
        due("wet", 9, x.cloth(0, 1));
        due("stains", 1, x.cloth(0, 2));
        due("in", 0, x.cloth(0, 3));
        due("hour", 4, x.count(4));
        due("no clothes hang", 0, x.hour());
        due("dries only what hangs", 9, x.cloth(0, 1));
        x = told(cloth("w", "wool", 9, 1, 6) + "pegs 9 9 ; pulls 0 ; dries mass - 12 ;");
        x.wash(0);
        x.hang(0, 3);
        // mass 1 + 18: less by 7; then 1 + 4 - 12 is below 0.
        x.hour();
        due("wet", 2, x.cloth(0, 1));
        x.hour();
        due("wet", 2, x.cloth(0, 1));
        x = told(cloth("w", "wool", 9, 1, 6) + cloth("v", "plain", 1, 1, 6) + "pegs 9 9 9 9 ; yards 60 ; pulls 0 ; dries 99 ;");
        x.wash(0);
        x.hang(0, 3);
        x.hang(1, 12);
        x.hour();
        due("9 at most", 0, x.cloth(0, 1));
        due("0 at least", 0, x.cloth(1, 1));
    }

    private static void undoing() {
        promise = "promise 14";
        PegLaws x = told(cloth("p", "plain", 6, 3, 5) + "pegs 1 1 ; pulls 3 ;");
        x.hang(0, 3);
        x.hour();
        x.wash(0);
        x.buy(5);
        x.take(0);
        x.hang(0, 4);
        x.take(0);
        due("count(11)", 6, x.count(11));
        due("undo take", true, x.undo());
        due("pegs", 4, x.cloth(0, 3));
        due("undo hang", true, x.undo());
        due("pegs", 0, x.cloth(0, 3));
        due("undo buy", true, x.undo());
        due("count(1)", 2, x.count(1));
        due("undo wash", true, x.undo());
        due("stains", 1, x.cloth(0, 2));
        due("undo hour", true, x.undo());
        due("hour", 0, x.count(4));
        due("grip", 1, x.peg(0, 0));
        due("pegs", 3, x.cloth(0, 3));
        due("wet", 0, x.cloth(0, 1));
        due("undo hang", true, x.undo());
        due("nothing", false, x.undo());
        for (int i = 0; i < 20; i++) {
            x.hour();
        }
        x.hang(0, 64);
        due("count(11)", 16, x.count(11));
        x.feel(0, 1, 1);
        for (int i = 0; i < 16; i++) {
            due("undo", true, x.undo());
        }
        due("nothing", false, x.undo());
        due("hour", 4, x.count(4));
        due("what is felt stays", 1, x.count(10));
    }

    private static void judging() {
        promise = "promise 15";
        PegLaws x = told(cloth("p", "plain", 6, 3, 5) + cloth("q", "plain", 6, 3, 40) + "pegs 1 1 9 9 ; pulls 3 ;");
        due("no day", -1, x.judged(0));
        due("no day", -1, x.judged(1));
        due("no day", 0, x.judged(2));
        x.hang(0, 3);
        x.buy(4);
        day(x, "hour ; hang p 0 1 ; hang q 2 3 ; hour ; hour ;");
        due("from the begin", -1, x.judged(0));
        due("first fall", 3, x.judged(1));
        due("worth", 40, x.judged(2));
        due("others", -2, x.judged(3));
        due("others", -2, x.judged(-1));
        day(x, "buy 4 ; hang p 4 5 ; take p ; hang p 4 ; wash p ; take p ; hang p 2 3 0 ; hang p 2 3 ; hour ;");
        due("no peg 5", 1, x.judged(0));
        due("no fall", -1, x.judged(1));
        due("worth", 5, x.judged(2));
        day(x, "take p ; wash p ;");
        due("in", 0, x.judged(0));
        day(x, "buy 1;buy 1;buy 1;buy 1;hang p 0 7;buy 1;");
        due("a ninth peg", 5, x.judged(0));
        day(x, "hang p 0 1 2;");
        due("by three", 0, x.judged(0));
        day(x, "hang p 2 3;wash p;");
        due("wash one that hangs", 1, x.judged(0));
        due("all is as it was", 3, x.cloth(0, 3));
    }

    private static void holding() {
        promise = "promise 16";
        PegLaws x = told(cloth("p", "plain", 6, 3, 5) + cloth("q", "plain", 6, 3, 5) + "pegs 9 9 1 1 ; pulls 6 ; winds 1 2 ;");
        due("in", -1, x.holds(0));
        due("others", -1, x.holds(2));
        due("others", -1, x.holds(-1));
        // 12 > grips only below 12: 18 never wears.
        x.hang(0, 3);
        due("not within 40", -1, x.holds(0));
        x.hang(1, 12);
        due("at once", 1, x.holds(1));
        due("all is as it was", 0, x.count(4));
        x = told(cloth("p", "plain", 6, 3, 5) + "pegs 9 8 ; pulls 9 ;");
        x.hang(0, 3);
        // 17, 15, 13, 11, 9 hold (9 is no more than 9), 7 does not.
        due("in the sixth", 6, x.holds(0));
        // Worn to 16, 14, 12, 10, 8 by five of the winds; the sixth is the 40th hour's, or the 41st one's.
        x = told(cloth("p", "plain", 1, 0, 5) + "pegs 9 9 ; pulls wind + 1 ; winds 0 0 0 0 9 0 0 ;");
        x.hang(0, 3);
        due("in the 40th", 40, x.holds(0));
        x = told(cloth("p", "plain", 1, 0, 5) + "pegs 9 9 ; pulls wind + 1 ; winds 0 0 0 0 0 9 0 ;");
        x.hang(0, 3);
        due("not within 40", -1, x.holds(0));
    }

    private static void clashing() {
        promise = "promises 17, 18";
        PegLaws x = told(cloth("a", "plain", 1, 0, 5) + cloth("b", "plain", 1, 0, 4) + cloth("c", "plain", 1, 0, 9)
                + cloth("d", "plain", 1, 0, 0) + "pegs 9 9 9 9 9 9 9 9 ; clash a b ; clash b c ; clash c d ; clash d a ;");
        due("clashes", 0, x.clashes());
        due("mend", 0, x.mend(0));
        x.hang(0, 3);
        x.hang(1, 12);
        due("clashes", 1, x.clashes());
        due("worth", 4, x.mend(0));
        due("b", 2, x.mend(1));
        x.hang(2, 48);
        x.hang(3, 192);
        due("count(8)", 4, x.count(8));
        due("clashes", 4, x.clashes());
        due("worth of b and d", 4, x.mend(0));
        due("b and d", 10, x.mend(1));
        due("others", -1, x.mend(2));
        due("others", -1, x.mend(-1));
        x.take(1);
        x.hang(1, 4);
        due("a turned one is no law", 2, x.clashes());
        due("worth of d", 0, x.mend(0));
        due("d", 8, x.mend(1));
        x = told(cloth("a", "plain", 1, 0, 5) + cloth("b", "plain", 1, 0, 5) + "pegs 9 9 9 9 ; clash b a ;");
        x.hang(0, 3);
        x.hang(1, 12);
        due("of equal ones the least set", 1, x.mend(1));
    }

    private static void filling() {
        promise = "promise 19";
        PegLaws x = told(cloth("a", "plain", 6, 0, 5) + cloth("b", "sheet", 6, 0, 9) + cloth("c", "plain", 6, 0, 5)
                + "pegs 3 3 3 3 ; yards 12 ; pulls wind ; winds 5 6 7 ;");
        due("both of 5", 10, x.fill(1, -1));
        due("a", 3, x.fill(1, 0));
        due("b", 0, x.fill(1, 1));
        due("c", 12, x.fill(1, 2));
        due("6 is no more than 6", 10, x.fill(2, -1));
        due("the sheet alone holds 7", 9, x.fill(3, -1));
        due("b", 15, x.fill(3, 1));
        due("hours 0", -2, x.fill(0, -1));
        due("hours 7", -2, x.fill(7, -1));
        due("cloth 3", -2, x.fill(1, 3));
        due("cloth -2", -2, x.fill(1, -2));
        x.hang(0, 1);
        due("all taken in", 10, x.fill(1, -1));
        x.hour();
        x.hour();
        due("from now on", 9, x.fill(1, -1));
        x = told(cloth("a", "plain", 6, 0, 0) + cloth("b", "plain", 7, 0, 1) + "pegs 1 9 9 ; yards 12 ; pulls 2 ;");
        due("worth", 1, x.fill(1, -1));
        due("no room for a", 0, x.fill(1, 0));
        due("b", 3, x.fill(1, 1));
        x = told(cloth("a", "plain", 6, 0, 0) + "pegs 1 9 9 ; pulls 2 ;");
        due("hung is ahead of none", 3, x.fill(1, 0));
        x.hang(0, 1);
        x.hour();
        due("none split", 6, x.fill(1, 0));
        x = told(cloth("a", "plain", 6, 0, 4) + "pegs 9 9 9 9 9 9 ; pulls wind * 20 ; winds 9 9 9 0 ;");
        for (int i = 0; i < 3; i++) {
            x.hang(0, 3 << 2 * i);
            x.hour();
        }
        due("three stains", 0, x.fill(1, -1));
        x.wash(0);
        due("washed", 4, x.fill(1, -1));
        // Wet by 9 it is pulled by 3; drying by 2 an hour by 5 then.
        x = told(cloth("a", "plain", 6, 0, 4) + "pegs 2 2 ; pulls 12 - mass ; dries 2 ;");
        x.wash(0);
        due("wet", 4, x.fill(1, -1));
        due("less wet", 0, x.fill(2, -1));
    }

    private static void chances() {
        promise = "promise 20";
        PegLaws x = told(cloth("a", "plain", 6, 0, 4) + "pegs 1 3 ; gusts 3 ; winds 1 2 ; pulls wind ; dries 0 ;");
        due("in", -1, x.odds(0, 1));
        x.hang(0, 3);
        due("others", -1, x.odds(1, 1));
        due("others", -1, x.odds(0, 0));
        due("others", -1, x.odds(0, 9));
        // Grips 4: by 4 of a gust it hangs, worn to 2; by 1 without one it is not worn.
        due("one hour", 1000000, x.odds(0, 1));
        // Then 2 or 5: of 4 it hangs unless gusty; of 2 too (worn: 4 > 2).
        due("two hours", 700000, x.odds(0, 2));
        // Third hour: wind 1 or 4. Never worn (7/10, 7/10): grips 4: all. Worn once: grips 2: 1 holds unless gusty,
        // twice worn (3/10, 7/10): grips 1: 1 holds, but is worn out: it falls.
        due("three hours", 490000, x.odds(0, 3));
        x = told(cloth("a", "plain", 6, 0, 4) + "pegs 9 9 ; pulls 1 ; gusts 7 ;");
        x.hang(0, 3);
        due("eight hours", 1000000, x.odds(0, 8));
        x = told(cloth("a", "plain", 6, 0, 4) + "pegs 2 1 ; pulls ( wind = 6 ) * 99 ; gusts 3 ;");
        x.hang(0, 3);
        // 0.7 ^ 8 = 0.05764801
        due("cut", 57648, x.odds(0, 8));
    }

    private static void drying() {
        promise = "promise 21";
        String fall = "pegs 9 9 9 9 9 9 ; yards 60 ; pulls ( wind = 9 ) * 99 ; ";
        PegLaws x = told(cloth("a", "plain", 1, 0, 4) + cloth("b", "plain", 2, 0, 4) + cloth("c", "plain", 3, 0, 4)
                + fall + "winds 9 1 ; dries size ;");
        due("none", 0, x.dry(0));
        due("none", -1, x.dry(1));
        x.hang(0, 3);
        x.hang(1, 12);
        x.hang(2, 48);
        due("hour", 3, x.hour());
        // 9, 5 and 3 hours: the slowest first; b or c second: behind 9 either way, so b.
        due("hours", 9, x.dry(0));
        due("first", 0, x.dry(1));
        due("second", 1, x.dry(2));
        due("third", 2, x.dry(3));
        due("others", -1, x.dry(4));
        due("others", -1, x.dry(-1));
        x.wash(0);
        // b first: 5; c second: 4. c first: 3; b second: 6.
        due("hours", 5, x.dry(0));
        due("first", 1, x.dry(1));
        due("second", 2, x.dry(2));
        due("others", -1, x.dry(3));
        x.hang(1, 3);
        due("one that hangs is none", 3, x.dry(0));
        x = told(cloth("a", "plain", 1, 0, 4) + fall + "winds 9 1 1 1 1 1 1 1 1 1 1 ; dries wind = 9 ;");
        x.hang(0, 3);
        x.hour();
        // Less by 1 in the hours 11, 22 .. 99, of which the last is the 99th from hour 1 on.
        due("behind 99", 99, x.dry(0));
        x = told(cloth("a", "plain", 1, 0, 4) + fall + "winds 9 1 1 1 1 1 1 1 1 1 1 1 ; dries wind = 9 ;");
        x.hang(0, 3);
        x.hour();
        due("not within 99", -1, x.dry(0));
        due("not within 99", -1, x.dry(1));
        for (int i = 0; i < 8; i++) {
            x.hour();
        }
        // Less by 1 in the hours 12, 24 .. 108, the last being the 100th from hour 9 on.
        due("behind 100", -1, x.dry(0));
        x.hour();
        due("behind 99", 99, x.dry(0));
        due("first", 0, x.dry(1));
        x = told(cloth("a", "plain", 1, 0, 4) + fall + "winds 9 1 1 1 1 1 1 1 1 1 1 ; dries wind = 9 ;");
        x.hang(0, 3);
        x.hour();
        for (int i = 0; i < 10; i++) {
            x.hour();
        }
        due("from now on", 89, x.dry(0));
    }

    private static void feeling() {
        promise = "promises 22, 23, 24";
        PegLaws x = told(cloth("a", "plain", 1, 0, 4) + cloth("w", "wool", 1, 0, 4) + "winds 1 2 1 3 ;");
        due("others", false, x.feel(2, 0, 9));
        due("others", false, x.feel(-1, 0, 9));
        due("others", false, x.feel(0, -1, 9));
        due("others", false, x.feel(0, 13, 9));
        due("others", false, x.feel(0, 0, -1));
        due("others", false, x.feel(0, 0, 10));
        due("all", 15, x.starts());
        // Behind 1: 8 7 8 6; behind 2: 6 6 5 5; behind 3: 5 3 4 3: 2 alike each, the first is 1.
        due("ask", 1, x.ask(0));
        due("feel", true, x.feel(0, 1, 8));
        due("places 0 and 2", 5, x.starts());
        due("ask", 2, x.ask(0));
        due("feel", true, x.feel(0, 2, 5));
        due("place 2", 4, x.starts());
        due("none parts them", -1, x.ask(0));
        due("feel", true, x.feel(1, 12, 9));
        due("none", 0, x.starts());
        due("none", -1, x.ask(0));
        due("others", -1, x.ask(2));
        due("others", -1, x.ask(-1));
        for (int i = 3; i < 8; i++) {
            due("feel", true, x.feel(0, 12, 0));
        }
        due("a ninth", false, x.feel(0, 0, 9));
        due("count(10)", 8, x.count(10));
        x = told(cloth("a", "plain", 1, 0, 4) + cloth("w", "wool", 1, 0, 4) + "winds 0 1 ; dries mass - 12 + wind ;");
        due("a plain one never dries", -1, x.ask(0));
        // Of wool 18 - 12, 6 + wind: behind 1: 3 2.
        due("wool", 1, x.ask(1));
        due("feel", true, x.feel(1, 1, 2));
        due("place 1", 2, x.starts());
        // Behind 8 hours wet by 1, then by 0 if there is a wind of 9: by place 0 in the 12th, by 4 to 11 too early.
        x = told(cloth("a", "plain", 1, 0, 4) + "winds 0 0 0 0 0 0 0 0 0 0 0 9 ; dries 1 < mass or wind = 9 ;");
        due("behind 12 it is 8 of 12, behind 11 9", 12, x.ask(0));
        due("feel", true, x.feel(0, 11, 1));
        due("places 0, 4 to 11", 4081, x.starts());
        due("12 hours", 12, x.ask(0));
        x = told(cloth("a", "plain", 1, 0, 4));
        due("no winds told", 1, x.starts());
        due("feel", true, x.feel(0, 3, 0));
        due("so", 1, x.starts());
        due("feel", true, x.feel(0, 3, 1));
        due("not so", 0, x.starts());
    }

    private static void changing() {
        promise = "promise 25";
        PegLaws x = told(cloth("a", "plain", 1, 0, 4) + cloth("b", "plain", 1, 0, 7) + "pegs 2 2 2 2 2 ; pulls 5 ;");
        x.hang(0, 3);
        due("a by peg 0", 0, x.change(1));
        x.hang(1, 12);
        due("b is worth more", 2, x.change(1));
        // 9 + 2 is not worn by 5 (10), so peg 2 is good for ever.
        due("for 20", 2, x.change(20));
        due("others", -1, x.change(0));
        due("others", -1, x.change(21));
        due("all is as it was", 2, x.peg(2, 0));
        x = told(cloth("a", "plain", 1, 0, 4) + "pegs 9 9 ; pulls 5 ;");
        x.hang(0, 3);
        due("not more than without", -1, x.change(20));
        x = told(cloth("a", "plain", 1, 0, 4) + "pegs 2 ; pulls 5 ;");
        x.hang(0, 1);
        due("held alike: by one it is no law", -1, x.change(1));
    }

    private static int rest(int one, int other, int third, int what) {
        try {
            return new PegLaws().rests(one, other, third, what);
        } catch (NoSuchElementException e) {
            return -99;
        }
    }

    private static void resting() {
        promise = "promise 26";
        due("no worth at all", 9, rest(0, 0, 0, -1));
        for (int i = 0; i < 9; i++) {
            due("rest", i, rest(0, 0, 0, i));
        }
        due("none such", -99, rest(0, 0, 0, 9));
        due("only the third has worth", 3, rest(0, 0, 9, -1));
        due("rest", 6, rest(0, 0, 9, 0));
        due("rest", 7, rest(0, 0, 9, 1));
        due("rest", 8, rest(0, 0, 9, 2));
        due("none such", -99, rest(0, 0, 9, 3));
        due("none", 0, rest(1, 1, 0, -1));
        due("none such", -99, rest(1, 1, 0, 0));
        due("others", -99, rest(10, 0, 0, -1));
        due("others", -99, rest(0, -1, 0, -1));
        due("others", -99, rest(0, 0, 10, -1));
        due("others", -99, rest(0, 0, 0, -2));
    }

    private static void drawing() {
        promise = "promise 27";
        PegLaws x = told(cloth("a", "plain", 1, 0, 4) + "pegs 9 9 9 ; pulls 0 ;");
        due("others", -1, x.decades(-1, 1, 0));
        due("others", -1, x.decades(10000, 1, 0));
        due("others", -1, x.decades(0, 0, 0));
        due("others", -1, x.decades(0, 61, 0));
        due("others", -1, x.decades(0, 1, 3));
        due("others", -1, x.decades(0, 1, -1));
        due("hung at once", 1, x.decades(0, 1, 0));
        due("grips", 27, x.decades(9999, 60, 2));
        due("all is as ahead", 0, x.cloth(0, 3));
        due("all is as ahead", 0, x.count(4));
        due("all is as ahead", 0, x.count(11));
        // Seed 0: g is 12345 (0), 1406932606 (21468), 654583775 (9988): hung; not gusty by 21468 % 10 = 8; then
        // 1449466924 (22117), 229283573 (3498): a draw of 4 that is 0 of 22117 % 4 = 1 is none, so it hangs.
        due("two", 2, x.decades(0, 2, 0));
        PegLaws y = told(cloth("a", "plain", 1, 0, 4) + "pegs 9 9 9 ; pulls ( wind = 6 ) * 99 ; gusts 9 ;");
        due("8 is below 9: gusty", 1, y.decades(0, 1, 1));
        due("two pegs worn", 25, y.decades(0, 1, 2));
        due("no law", 0, y.decades(0, 1, 0));
        y = told(cloth("a", "plain", 1, 0, 4) + "pegs 9 9 9 ; pulls ( wind = 6 ) * 99 ; gusts 8 ;");
        due("8 is not below 8", 0, y.decades(0, 1, 1));
        y = told(cloth("s", "sheet", 1, 0, 4) + "pegs 9 9 9 ;");
        due("too few pegs", 0, y.decades(5, 60, 0));
        y = told(cloth("a", "plain", 4, 0, 4) + "pegs 9 9 9 ; yards 3 ;");
        due("no room", 0, y.decades(5, 60, 0));
        y = told("pegs 9 9 9 ;");
        due("no cloths", 27, y.decades(5, 60, 2));
    }

    private static void marking() {
        promise = "promise 28";
        PegLaws x = told(cloth("a", "plain", 1, 0, 4) + "pegs 9 9 1 ; pulls 1 ; dries 1 ;");
        due("nothing is on it", false, x.mark(0, true));
        due("none such", false, x.mark(4, false));
        due("none such", false, x.mark(-1, false));
        due("none such", false, x.mark(4, true));
        x.wash(0);
        x.hang(0, 3);
        x.feel(0, 0, 9);
        due("laid", true, x.mark(3, false));
        due("undo stays", 2, x.count(11));
        x.hour();
        x.take(0);
        x.buy(4);
        x.feel(0, 1, 8);
        day(x, "hour ;");
        due("back", true, x.mark(3, true));
        due("hour", 0, x.count(4));
        due("pegs", 3, x.count(1));
        due("cloth", 3, x.cloth(0, 3));
        due("wet", 9, x.cloth(0, 1));
        due("felt", 1, x.count(10));
        due("nothing can be undone", false, x.undo());
        due("the day stays", 1, x.count(9));
        x.hour();
        due("laid again", true, x.mark(3, false));
        x.hour();
        due("back", true, x.mark(3, true));
        due("back twice", true, x.mark(3, true));
        due("hour", 1, x.count(4));
        due("another", false, x.mark(0, true));
        x = told(cloth("a", "plain", 1, 0, 4) + cloth("w", "wool", 1, 0, 4) + "winds 1 2 1 3 ; dries wind + mass - 9 ;");
        x.mark(0, false);
        x.feel(0, 1, 7);
        due("by what was felt", 2, x.starts());
        x.mark(1, false);
        x.mark(0, true);
        due("nothing felt", 15, x.starts());
        x.feel(1, 2, 5);
        x.mark(1, true);
        due("by what was felt first", 2, x.starts());
    }

    private static void counting() {
        promise = "promise 29";
        PegLaws x = told(cloth("a", "plain", 7, 0, 4) + cloth("b", "plain", 5, 0, 50) + "pegs 9 9 1 ; yards 30 ; winds 1 7 ; clash a b ; pulls 0 ;");
        x.hang(0, 4);
        x.hang(1, 3);
        x.hour();
        day(x, "hour ; hour ;");
        x.feel(0, 0, 0);
        put(x, "abc");
        int[] counts = {2, 3, 30, 21, 1, 7, 50, 1, 1, 2, 1, 3, 3};
        for (int what = 0; what < counts.length; what++) {
            due("count(" + what + ")", counts[what], x.count(what));
        }
        due("others", -1, x.count(13));
        due("others", -1, x.count(-1));
        due("NONE", -1, PegLaws.NONE);
    }

    public static void main(String[] args) {
        newObject();
        feed();
        lineWords();
        newLine();
        expressions();
        dayWords();
        cloths();
        pegsAndFree();
        lawsAndHanging();
        takeWashBuy();
        stainsAndLaw();
        hours();
        undoing();
        judging();
        holding();
        clashing();
        filling();
        chances();
        drying();
        feeling();
        changing();
        resting();
        drawing();
        marking();
        counting();
        System.out.println(wrong == 0 ? asked + " answers are as due" : wrong + " answers are not as due");
        if (wrong != 0) {
            System.exit(1);
        }
    }
}
