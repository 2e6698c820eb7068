import java.util.ArrayList;
import java.util.Arrays;
import java.util.List;

/** Edges of what stands ahead of the promises about reading, and of promises 1 to 4. */
public final class ReadingEdgesTest extends Edges {
    private static final String TWO = cloth("aa", "plain", 1, 1, 1) + cloth("bb", "wool", 1, 1, 1);
    private static final String FIVE = TWO + cloth("cc", "flag", 1, 1, 1) + cloth("dd", "sheet", 1, 1, 1)
            + cloth("ee", "plain", 1, 1, 1);
    private static final String SIX = FIVE + cloth("ff", "plain", 1, 1, 1);
    private static final String KEPT = "cloth wide weight worth pegs winds yards gusts clash pulls dries hang take wash buy hour"
            + " plain sheet flag wool not and or";
    private static final String FACTS = "wind mass size";
    private static final List<String> NAMES = List.of("aa", "wind", "mass", "size");
    private static final String SIGNS = "( ) < = + - * ;";
    private static final String BROKEN = "# A abcdefghi 12345";

    private static String blanks(int many) {
        return " ".repeat(many);
    }

    // ---- What it is ----

    private static void calls512() {
        sentence(0, "An object is used for at most 512 calls after it has been made");
        made().times(510, "hour()=0").calls("count(4)=510 undo()=true");
        Run tape = made();
        for (int i = 1; i <= 512; i++) {
            tape.calls("feed(2314885530818453536,2314885530818453536,2314885530818453536)=" + Math.min(1000, 24 * i));
        }
        Run filled = told(FIVE + "pegs 9 9 9 9 9 9 9 9 ;");
        filled.times(filled.callsLeft(), "fill(6,-1)=4");
        made().times(256, "mark(3,false)=true mark(3,true)=true");
    }

    private static void none() {
        sentence(0, "`NONE = -1`: None.");
        check(PegLaws.NONE == -1, "NONE is " + PegLaws.NONE);
    }

    // ---- Promise 1 ----

    private static void newObject() {
        sentence(1, "At first: nothing.");
        made().calls("count(0)=0 count(1)=0 count(2)=20 count(3)=20 count(4)=0 count(5)=3 count(6)=0 count(7)=0 count(8)=0")
                .calls("count(9)=0 count(10)=0 count(11)=0 count(12)=0 free()=0 laws()=0 clashes()=0 starts()=1")
                .calls("judged(0)=-1 judged(1)=-1 judged(2)=0 mend(0)=0 mend(1)=0 fill(1,-1)=0 dry(0)=0 dry(1)=-1")
                .calls("cloth(0,0)=-1 peg(0,0)=-2 peg(0,1)=-2 undo()=false decades(1,60,0)=0 decades(1,60,1)=0")
                .calls("decades(1,60,2)=0 mark(0,true)=false mark(1,true)=false mark(2,true)=false mark(3,true)=false");
        made().refused("hang(0,0)=-1 hang(0,1)=-1 take(0)=false wash(0)=-1 feel(0,0,9)=false ask(0)=-1 holds(0)=-1"
                + " odds(0,1)=-1 fill(1,0)=-2 change(1)=-1 undo()=false");
        made().put("take aa").calls("day()=82");
        made().put("hour ;").calls("day()=0 count(9)=1 judged(0)=-1");
        made().calls("hour()=0 count(4)=1 buy(9)=0 free()=1 mark(0,false)=true");
    }

    // ---- Promise 2 ----

    private static void bytesInOrder() {
        sentence(2, "Up to 24 signs come behind the TAPE: the bytes of a, b, c, of each the highest first");
        // 'yards 31', ';gusts 7', ';winds 4' and then ';'.
        made().calls("feed(" + bytes("yards 31") + "," + bytes(";gusts 7") + "," + bytes(";winds 4") + ")=24")
                .calls("feed(0,0," + (int) ';' + ")=25 line()=0 count(2)=31 count(5)=4");
        made().calls("feed(" + ((long) '5' << 56) + ",0,0)=1 feed(0,0," + (int) ';' + ")=2 line()=1");
        made().calls("feed(0,0,0)=0 feed(" + bytes("yards5;;") + ",0,0)=8 line()=113");
    }

    private static long bytes(String eight) {
        long word = 0;
        for (char sign : eight.toCharArray()) {
            word = word << 8 | sign;
        }
        return word;
    }

    private static void signsLeftOut() {
        sentence(2, "others than 10 and 32 .. 126, and what is beyond 1,000, are left out");
        Run run = made();
        int signs = 0;
        for (int sign = 0; sign < 256; sign++) {
            signs += sign == 10 || (sign >= 32 && sign <= 126) ? 1 : 0;
            run.calls("feed(0," + ((long) sign << 56) + ",0)=" + signs);
        }
        run.calls("count(12)=96");
        // What is left out does not part a WORD.
        made().put("ho\u0000\u0009\u007f\u0080\u00ffur;").calls("count(12)=5 day()=0 count(9)=1");
        made().calls("feed(-1,-1,-1)=0 feed(" + Long.MIN_VALUE + "," + Long.MAX_VALUE + ",0)=0");
    }

    private static void signsBeyond() {
        sentence(0, "The TAPE has at most 1,000 signs");
        made().put(blanks(999)).calls("count(12)=999 feed(0,0,35)=1000 feed(0,0,35)=1000 line()=15985");
        made().put(blanks(998)).calls("count(12)=998 feed(0,35,35)=1000 feed(35,35,35)=1000 line()=15969");
        made().put(blanks(999)).calls("feed(0,8227,35)=1000 line()=0");
        made().put(blanks(1000)).calls("count(12)=1000 feed(35,35,35)=1000 line()=0 count(12)=0 feed(0,0,35)=1 line()=1");
        made().put(blanks(990) + " yards 9 ;pegs 0 ;").calls("count(12)=1000 line()=0 count(2)=9 count(1)=0");
        made().put(blanks(991) + "yards 19;").calls("count(12)=1000 line()=0 count(2)=19");
        made().put(blanks(992) + "yards 19;").calls("count(12)=1000 line()=16001");
        made().put(blanks(993) + "yards 19;").calls("count(12)=1000 line()=16001 count(2)=20");
    }

    private static void howMany() {
        sentence(2, "how many there are");
        made().calls("feed(0,0,0)=0 feed(32,0,0)=1 feed(32,10,126)=4 count(12)=4")
                .put(blanks(24)).calls("count(12)=28 line()=49 count(12)=0 feed(32,0,0)=1");
    }

    // ---- Terms: the TAPE and its tokens ----

    private static void taken() {
        sentence(0, "what reads it takes it: it is empty then");
        made().put("yards 5 ;").calls("count(12)=9 line()=0 count(12)=0 count(2)=5 line()=0 count(2)=20");
        made().put("oh").calls("line()=1 count(12)=0 line()=0");
        made().put("hour ;").calls("day()=0 count(12)=0 count(9)=1 day()=0 count(9)=0");
        made().put("oh").calls("day()=1 count(12)=0 day()=0");
        made().put("hour ;").calls("line()=1").put("hour ;").calls("day()=0 count(9)=1");
    }

    private static void longestTokens() {
        sentence(0, "TOKENS, each as long as can be");
        lineFault(1, "@cloths aa plain");
        lineFault(1, "@clothaa plain");
        lineFault(1, "@yard");
        lineFault(4, "yards @600 ;");
        lineFault(1, "yards 6 @0 ;");
        lineFault(4, "pegs @11 ;");
        lineFault(1, "pulls @notwind ;");
        lineFault(1, "pulls @windwind ;");
        lineFault(1, "pulls wind @andwind ;");
        told(cloth("a", "plain", 1, 0, 0) + "pulls 12 ;").calls("cloth(0,7)=12");
        dayFault(1, "@hours ;");
        dayFault(4, "hang aa @01234 ;".replace("01234", "12"));
        dayFault(1, "buy 1 @2 ;");
    }

    private static void blanksBetween() {
        sentence(0, "blanks (10, 32) between where one likes");
        made().put("\n \nyards\n5\n;\n\n gusts\n\n7 ;").calls("line()=0 count(2)=5");
        made().put("yards5;gusts7;pegs9 9;winds4;").calls("line()=0 count(2)=5 count(1)=2 count(5)=4");
        made().put("cloth a plain wide6weight0worth3;pulls(wind)+(size)*2;dries not(wind)and(size<3)or 1=1;")
                .calls("line()=0 cloth(0,7)=15");
        made().put("hang").calls("day()=65").put("hour;hour;buy9;").calls("day()=0 count(9)=3 judged(0)=-1");
        lineFault(1, "@clo th aa");
        lineFault(1, "yards 1 @0 ;");
        line(0, "");
        line(0, " ");
        line(0, "\n");
    }

    private static void wordsOf8() {
        sentence(0, "WORDS (letters a .. z, 8 at most)");
        line(0, cloth("a", "plain", 1, 1, 1) + cloth("z", "plain", 1, 1, 1) + cloth("abcdefg", "plain", 1, 1, 1));
        line(0, cloth("abcdefgh", "plain", 1, 1, 1) + cloth("abcdefgi", "plain", 1, 1, 1) + cloth("zzzzzzzz", "wool", 1, 1, 1)
                + cloth("zzzzzzz", "wool", 1, 1, 1) + "clash abcdefgi abcdefgh ; clash zzzzzzz zzzzzzzz ;");
        lineFault(1, "cloth @abcdefghi plain");
        lineFault(1, "cloth @zzzzzzzzz plain");
        for (char sign : "`{AZ@[".toCharArray()) {
            line(1 + 16 * 6, "cloth " + sign);
            line(1 + 16 * 7, "cloth a" + sign + " plain");
        }
        lineFault(1, TWO + "clash aa @abcdefghi");
        dayFault(1, "take @abcdefghi ;");
        dayFault(2, "take @abcdefgh ;");
        // Words that would be known ones, were they cut or wrapped.
        lineFault(1, "@yardsyards 5 ;");
        lineFault(1, "@" + "a".repeat(500));
    }

    private static void numbersOf4() {
        sentence(0, "NUMBERS (1 to 4 digits; a letter may stand right behind)");
        made().put("yards 0020;").calls("line()=0 count(2)=20");
        made().put("yards 7;").calls("line()=0 count(2)=7");
        lineFault(1, "yards @00020 ;");
        lineFault(1, "yards @4294967316 ;");
        lineFault(1, "pegs 1 @00001 ;");
        lineFault(1, "pulls @10000 ;");
        told(cloth("a", "plain", 1, 0, 0) + "pulls 9999 - 9900 ;").calls("cloth(0,7)=99");
        line(0, "cloth a plain wide 1weight 20worth 99;");
        line(0, "cloth a plain wide 0001weight 0020worth 0099;");
        lineFault(1, "cloth a plain wide @00001weight 1");
        told(cloth("a", "plain", 1, 0, 0) + "pulls 7and 1;").calls("cloth(0,7)=1");
        for (char sign : "/:".toCharArray()) {
            line(1 + 16 * 6, "yards " + sign);
            line(1 + 16 * 7, "yards 5" + sign);
        }
    }

    private static void signsThatStand() {
        sentence(0, "the signs ( ) < = + - * ;");
        for (char sign = 33; sign < 127; sign++) {
            boolean token = Character.isLetterOrDigit(sign);
            if (!token) {
                line(1, sign + " ;");
                line(1 + 16 * 2, "\n " + sign);
            }
            boolean joins = "<=+-*".indexOf(sign) >= 0;
            if (!token) {
                // Behind ; the LINE goes on with the 1, which can't stand there.
                line(joins ? 0 : sign == ';' ? 1 + 16 * 10 : 1 + 16 * 8, "pulls 1 " + sign + " 1 ;");
            }
        }
        line(0, "pulls ( 1 ) ;");
    }

    private static void noTokens() {
        sentence(0, "All else (a longer WORD or NUMBER, too, at its first sign) is none.");
        for (String none : "# A abcdefghi 12345 _ \" ~ ! , . ' & | > [ ] { } / \\".split(" ")) {
            line(1, none);
            line(1 + 16 * 2, "  " + none + " ;");
            line(1 + 16 * 5, "pegs " + none);
            line(1 + 16 * 7, "pegs 1 " + none + " ;");
            line(1 + 16 * 10, "pulls 1 + " + none + " 1 ;");
        }
    }

    // ---- Terms: LINE ----

    private static void sixCloths() {
        sentence(0, "cloth: 6 at most, numbered as told");
        told(FIVE).calls("count(0)=5 cloth(0,0)=0 cloth(1,0)=3 cloth(2,0)=2 cloth(3,0)=1 cloth(4,0)=0 cloth(5,0)=-1");
        told(SIX).calls("count(0)=6 cloth(5,0)=0 cloth(6,0)=-1");
        lineFault(5, SIX + "@cloth gg plain wide 1 weight 1 worth 1 ;");
        lineFault(5, SIX + "@cloth");
        lineFault(5, SIX + "pegs 1 ; @cloth aa");
    }

    private static void kinds() {
        sentence(0, "KIND: plain, sheet, flag, wool");
        told(cloth("a", "plain", 1, 0, 0)).calls("cloth(0,0)=0");
        told(cloth("a", "sheet", 1, 0, 0)).calls("cloth(0,0)=1");
        told(cloth("a", "flag", 1, 0, 0)).calls("cloth(0,0)=2");
        told(cloth("a", "wool", 1, 0, 0)).calls("cloth(0,0)=3");
        lineFault(1, "cloth a @silk wide 1");
        lineFault(1, "cloth a @wide 1");
        lineFault(1, "cloth a @hour");
        lineFault(1, "cloth a @not");
        lineFault(1, "cloth a @0");
    }

    private static void wide() {
        sentence(0, "wide 1 to 20");
        lineFault(4, "cloth a plain wide @0 ;");
        told(cloth("a", "plain", 1, 0, 0) + "pulls size ;").calls("cloth(0,7)=1");
        told(cloth("a", "plain", 2, 0, 0) + "pulls size ;").calls("cloth(0,7)=2");
        told(cloth("a", "plain", 19, 0, 0) + "pulls size ;").calls("cloth(0,7)=19");
        told(cloth("a", "plain", 20, 0, 0) + "pulls size ;").calls("cloth(0,7)=20");
        lineFault(4, "cloth a plain wide @21 weight 1 worth 1 ;");
        lineFault(4, "cloth a plain wide @9999 ;");
    }

    private static void weight() {
        sentence(0, "weight 0 to 20");
        told(cloth("a", "plain", 1, 0, 0) + "pulls mass ;").calls("cloth(0,7)=0");
        told(cloth("a", "plain", 1, 1, 0) + "pulls mass ;").calls("cloth(0,7)=1");
        told(cloth("a", "plain", 1, 19, 0) + "pulls mass ;").calls("cloth(0,7)=19");
        told(cloth("a", "plain", 1, 20, 0) + "pulls mass ;").calls("cloth(0,7)=20");
        lineFault(4, "cloth a plain wide 1 weight @21 worth 1 ;");
        lineFault(1, "cloth a plain wide 1 weight @- 1");
    }

    private static void worth() {
        sentence(0, "worth 0 to 99");
        told(cloth("a", "plain", 1, 0, 0) + "pegs 9 9 ;").calls("hang(0,3)=19 count(6)=0 laws()=1");
        told(cloth("a", "plain", 1, 0, 1) + "pegs 9 9 ;").calls("hang(0,3)=19 count(6)=1");
        told(cloth("a", "plain", 1, 0, 98) + "pegs 9 9 ;").calls("hang(0,3)=19 count(6)=98");
        told(cloth("a", "plain", 1, 0, 99) + "pegs 9 9 ;").calls("hang(0,3)=19 count(6)=99");
        lineFault(4, "cloth a plain wide 1 weight 1 worth @100 ;");
    }

    private static void pegsTold() {
        sentence(0, "pegs: grips 1 to 9, 1 to 8 of them, numbered as told");
        lineFault(4, "pegs @0 ;");
        lineFault(4, "pegs 1 @0 ;");
        made().put("pegs 1 ;").calls("line()=0 count(1)=1 peg(0,0)=1 peg(1,0)=-2");
        made().put("pegs 9 8 ;").calls("line()=0 count(1)=2 peg(0,0)=9 peg(1,0)=8 free()=3");
        lineFault(4, "pegs @10 ;");
        lineFault(1, "pegs @;");
        lineFault(1, "pegs@");
        made().put("pegs 1 2 3 4 5 6 7 ;").calls("line()=0 count(1)=7 peg(6,0)=7 peg(7,0)=-2");
        made().put("pegs 1 2 3 4 5 6 7 8 ;").calls("line()=0 count(1)=8 peg(0,0)=1 peg(7,0)=8 peg(8,0)=-2 free()=255");
        lineFault(5, "pegs 1 2 3 4 5 6 7 8 @9 ;");
        // Without pegs there are none.
        made().put("yards 5 ;").calls("line()=0 count(1)=0 free()=0");
    }

    private static void windsTold() {
        sentence(0, "winds: 0 to 9 of one hour behind another, 1 to 12, again and again (one of 3)");
        made().put("winds 0 ;").calls("line()=0 count(5)=0 hour()=0 count(5)=0");
        made().put("winds 9 1 ;").calls("line()=0 count(5)=9 hour()=0 count(5)=1 hour()=0 count(5)=9");
        lineFault(4, "winds @10 ;");
        lineFault(4, "winds 9 @10 ;");
        lineFault(1, "winds @;");
        String eleven = "winds 8 7 6 5 4 3 2 1 0 9 8 ";
        Run run = made().put(eleven + ";").calls("line()=0").times(10, "hour()=0").calls("count(5)=8 hour()=0 count(5)=8 hour()=0");
        run.calls("count(5)=7 starts()=2047");
        run = made().put(eleven + "4 ;").calls("line()=0").times(11, "hour()=0").calls("count(5)=4 hour()=0 count(5)=8 hour()=0");
        run.calls("count(5)=7 starts()=4095");
        lineFault(5, eleven + "4 @4 ;");
        made().calls("line()=0 count(5)=3 hour()=0 count(5)=3 starts()=1");
    }

    private static void yardsTold() {
        sentence(0, "yards 1 to 60 (20)");
        lineFault(4, "yards @0 ;");
        made().put("yards 1 ;").calls("line()=0 count(2)=1 count(3)=1");
        made().put("yards 59 ;").calls("line()=0 count(2)=59");
        made().put("yards 60 ;").calls("line()=0 count(2)=60 count(3)=60");
        lineFault(4, "yards @61 ;");
        made().calls("line()=0 count(2)=20 count(3)=20");
    }

    private static void gustsTold() {
        sentence(0, "gusts: of ten hours so many, 0 to 10 (0)");
        // It falls by a gust alone.
        String fall = cloth("a", "plain", 1, 0, 0) + "pegs 9 9 ; pulls ( wind = 6 ) * 99 ; ";
        told(fall).calls("hang(0,3)=19 odds(0,1)=1000000");
        told(fall + "gusts 0 ;").calls("hang(0,3)=19 odds(0,1)=1000000");
        told(fall + "gusts 1 ;").calls("hang(0,3)=19 odds(0,1)=900000");
        told(fall + "gusts 9 ;").calls("hang(0,3)=19 odds(0,1)=100000");
        told(fall + "gusts 10 ;").calls("hang(0,3)=19 odds(0,1)=0");
        lineFault(4, "gusts @11 ;");
    }

    private static void clashTold() {
        sentence(0, "clash: two CLOTHS told, not the same, each pair once");
        told(TWO + "clash aa bb ;").calls("count(8)=1");
        told(TWO + "clash bb aa ;").calls("count(8)=1");
        lineFault(3, TWO + "clash aa @aa ;");
        lineFault(3, TWO + "clash bb @bb ;");
        lineFault(3, TWO + "clash aa bb ; clash aa @bb ;");
        lineFault(3, TWO + "clash aa bb ; clash bb @aa ;");
        lineFault(1, TWO + "clash aa @;");
        lineFault(1, TWO + "clash aa bb @aa ;");
        // Each told ahead of it: of one told only behind, there is none yet.
        lineFault(2, "clash @aa bb ; " + TWO);
        lineFault(2, cloth("aa", "plain", 1, 1, 1) + "clash aa @bb ; " + cloth("bb", "wool", 1, 1, 1));
        String shortSix = "cloth a plain wide 1weight 0worth 1;cloth b plain wide 1weight 0worth 1;cloth c plain wide 1weight 0worth 1;"
                + "cloth d plain wide 1weight 0worth 1;cloth e plain wide 1weight 0worth 1;cloth f plain wide 1weight 0worth 1;";
        String pairs = "clash a b;clash a c;clash a d;clash a e;clash a f;clash b c;clash b d;clash b e;clash b f;clash c d;"
                + "clash c e;clash c f;clash d e;clash d f;clash f e;";
        told(shortSix + pairs).calls("count(8)=15");
        lineFault(3, shortSix + pairs + "clash e @f;");
        lineFault(3, shortSix + pairs + "clash b @a;");
        told(TWO + cloth("cc", "plain", 1, 1, 1) + "clash aa bb ; clash aa cc ; clash cc bb ;").calls("count(8)=3");
    }

    private static void onceEach() {
        sentence(0, "pegs, winds, yards, gusts, pulls, dries: once each.");
        for (String once : "pegs 1 ;,winds 1 ;,yards 1 ;,gusts 1 ;,pulls 1 ;,dries 1 ;".split(",")) {
            line(0, once);
            lineFault(3, once + "@" + once);
            lineFault(3, once + TWO + "@" + once.substring(0, 5));
            // Once in each LINE: the one ahead of it, or one with a FAULT, does not count.
            made().put(once).calls("line()=0").put(once).calls("line()=0");
            made().put(once + "#").calls("line()=" + (1 + 16 * once.length())).put(once).calls("line()=0");
        }
        line(0, "pulls 1 ; dries 1 ; pegs 1 ; winds 1 ; yards 1 ; gusts 1 ;");
        line(0, "dries 1 ; gusts 1 ; yards 1 ; winds 1 ; pegs 1 ; pulls 1 ;");
    }

    private static void anyNumber() {
        sentence(0, "LINE: any number of");
        made().calls("line()=0 count(0)=0 count(1)=0");
        told("gusts 3 ; " + TWO + "yards 9 ; " + cloth("cc", "flag", 1, 1, 1) + "clash cc aa ; pegs 4 ;")
                .calls("count(0)=3 count(1)=1 count(2)=9 count(8)=1");
        sentence(0, "DAY: any number of");
        made().calls("day()=0 count(9)=0").put("hour;").calls("day()=0 count(9)=1");
    }

    // ---- Terms: DAY ----

    private static void dayPegs() {
        sentence(0, "a CLOTH by PEGS 0 to 7, 1 to 4 of them, each once; CLOTHS; a grip 1 to 9");
        busy().put("hang aa 0 ; hang aa 7 ;").calls("day()=0 count(9)=2");
        dayFault(4, "hang aa @8 ;");
        dayFault(4, "hang aa 7 @9999 ;");
        dayFault(1, "hang aa @;");
        dayFault(1, "hang aa@");
        busy().put("hang aa 3 2 1 ; hang aa 4 5 6 7 ;").calls("day()=0 count(9)=2");
        dayFault(5, "hang aa 4 5 6 7 @0 ;");
        dayFault(3, "hang aa 4 @4 ;");
        dayFault(3, "hang aa 4 5 6 @4 ;");
        dayFault(1, "hang @0 1 ;");
        dayFault(1, "hang aa 1 @aa ;");
        dayFault(1, "take aa @1 ;");
        dayFault(1, "wash aa @0 ;");
        dayFault(1, "hour @aa ;");
        dayFault(4, "buy @0 ;");
        busy().put("buy 1 ; buy 9 ;").calls("day()=0 count(9)=2");
        dayFault(4, "buy @10 ;");
        dayFault(1, "buy @aa ;");
    }

    private static void thirtyLines() {
        sentence(0, "30 lines at most");
        made().put("hour;".repeat(29)).calls("day()=0 count(9)=29");
        made().put("hour;".repeat(30)).calls("day()=0 count(9)=30 judged(0)=-1");
        dayFault(5, "hour;".repeat(30) + "@hour;");
        for (String first : "hang take wash buy".split(" ")) {
            dayFault(5, "hour;".repeat(30) + "@" + first);
        }
        dayFault(1, "hour;".repeat(30) + "@cloth");
        dayFault(1, "hour;".repeat(30) + "@;");
        dayFault(1, "hour;".repeat(30) + "@abcdefghi");
        dayFault(1, "hour;".repeat(29) + "hour@");
    }

    private static void names() {
        sentence(0, "A NAME is another WORD than cloth, wide, weight, worth, pegs, winds, yards, gusts, clash, pulls, dries,"
                + " hang, take, wash, buy, hour, the KINDS, not, and, or; no two are alike.");
        for (String word : KEPT.split(" ")) {
            lineFault(1, "cloth @" + word + " plain wide 1 weight 1 worth 1 ;");
            lineFault(1, TWO + "clash @" + word + " aa ;");
            lineFault(1, TWO + "clash aa @" + word + " ;");
            dayFault(1, "take @" + word + " ;");
            // A sign more or less, and it is one.
            line(0, cloth(word.substring(1), "plain", 1, 1, 1) + cloth(word + "x", "plain", 1, 1, 1));
        }
        Run facts = told(cloth("wind", "plain", 1, 1, 1) + cloth("mass", "wool", 1, 1, 1) + cloth("size", "flag", 1, 1, 1)
                + "clash wind mass ; clash size wind ; pulls wind ; pegs 9 9 ;");
        facts.calls("count(8)=2").put("hang wind 0 1 ; take wind ; wash size ;").calls("day()=0 judged(0)=-1");
        line(0, cloth("tape", "plain", 1, 1, 1) + cloth("line", "plain", 1, 1, 1) + cloth("day", "plain", 1, 1, 1)
                + cloth("wet", "plain", 1, 1, 1) + cloth("kinds", "plain", 1, 1, 1));
        lineFault(3, TWO + "cloth @aa wool");
        lineFault(3, TWO + "cloth @bb plain");
        lineFault(3, FIVE + "cloth @ee");
        line(0, cloth("aa", "plain", 1, 1, 1) + cloth("aaa", "plain", 1, 1, 1) + cloth("a", "plain", 1, 1, 1));
        made().put(TWO).calls("line()=0").put(TWO).calls("line()=0 count(0)=2");
    }

    // ---- Terms: E ----

    /** The pull of a plain CLOTH, wide 4, weight 3, dry, in a wind of 5. */
    private static void value(String e, int want) {
        told(cloth("a", "plain", 4, 3, 0) + "winds 5 ; pulls " + e + " ;").calls("cloth(0,7)=" + want);
    }

    private static void order() {
        sentence(0, "E: TEST { and TEST or or TEST }, from the left; TEST: SUM, or SUM < SUM, or SUM = SUM;"
                + " SUM: PRODUCT { + or - PRODUCT }; PRODUCT: PART { * PART }");
        value("1 or 1 and 0", 0);
        value("1 or ( 1 and 0 )", 1);
        value("0 and 0 or 1", 1);
        value("0 and ( 0 or 1 )", 0);
        value("7", 7);
        value("3 < 4", 1);
        value("4 < 4", 0);
        value("5 < 4", 0);
        value("3 = 4", 0);
        value("4 = 4", 1);
        value("5 = 4", 0);
        value("1 + 1 < 3 and 2 = 1 + 1", 1);
        value("1 < 1 + 1", 1);
        value("10 - 3 - 2", 5);
        value("10 - ( 3 - 2 )", 9);
        value("10 - 3 + 2", 9);
        value("2 * 3 + 4 * 5", 26);
        value("2 * ( 3 + 4 ) * 5", 70);
        value("1 + not 0 * 5", 6);
        value("not 1 + 5", 5);
        value("not ( 1 + 5 )", 0);
        value("not 0 = 1", 1);
        lineFault(1, "pulls 1 < 2 @< 3 ;");
        lineFault(1, "pulls 1 < 2 @= 3 ;");
        lineFault(1, "pulls 1 = 2 @< 3 ;");
        lineFault(1, "pulls 1 + @;");
        lineFault(1, "pulls @+ 1 ;");
        lineFault(1, "pulls 1 and @;");
        lineFault(1, "pulls 1 and @or 1 ;");
        lineFault(1, "pulls 1 @not 1 ;");
        lineFault(1, "pulls ( @) ;");
        lineFault(1, "pulls ( 1 @;");
        lineFault(1, "pulls 1 @) ;");
        lineFault(1, "pulls@");
        lineFault(1, "dries 1@");
    }

    private static void parts() {
        sentence(0, "PART: a NUMBER, a fact, not PART, ( E )");
        value("0", 0);
        value("wind", 5);
        value("mass", 3);
        value("size", 4);
        value("not size", 0);
        value("not not size", 1);
        value("( size )", 4);
        value("( 1 or 0 and 0 ) + ( 1 < 2 ) * ( 7 - 4 )", 3);
        lineFault(1, "pulls not @;");
        lineFault(1, "pulls not @+ 1 ;");
        lineFault(1, "pulls @aa ;");
        lineFault(1, "pulls @plain ;");
    }

    private static void partsWithin() {
        sentence(0, "no PART lies within 5 of not and ( )");
        value("( ( ( 7 ) ) )", 7);
        value("( ( ( ( 7 ) ) ) )", 7);
        lineFault(5, "pulls ( ( ( ( ( @7 ) ) ) ) ) ;");
        value("not not not not 7", 1);
        lineFault(5, "pulls not not not not not @7 ;");
        value("not ( not ( 7 ) )", 1);
        lineFault(5, "pulls not ( not ( not @7 ) ) ;");
        lineFault(5, "pulls ( not ( not ( @wind ) ) ) ;");
        lineFault(5, "dries ( ( ( ( ( @mass");
        // Those that are closed count no more.
        value("( 1 ) + ( 1 ) + ( 1 ) + ( 1 ) + ( 1 ) + ( 1 )", 6);
        value("not 1 + not 1 + not 1 + not 0 + not 0 + not 0", 3);
        value("( ( ( ( 1 ) ) ) ) + ( ( ( ( 2 ) ) ) )", 3);
        lineFault(5, "pulls ( ( ( ( 1 ) ) ) ) + ( ( ( ( ( @2");
        lineFault(5, "pulls ( ( ( ( 1 + ( @2");
        lineFault(5, "pulls 1 < 2 and ( ( ( ( not @2");
        sentence(0, "not, or a PART, within 5 others");
        lineFault(5, "pulls ( ( ( ( ( @( 7");
        lineFault(5, "pulls ( ( ( ( ( @not 7");
        lineFault(5, "pulls not not not not not @not 7");
        lineFault(5, "pulls not not not not not @( 7");
        lineFault(1, "pulls not not not not not @;");
        lineFault(1, "pulls ( ( ( ( ( @) ;");
        lineFault(1, "pulls ( ( ( ( ( @aa ;");
        lineFault(1, "pulls ( ( ( ( ( @and ;");
        lineFault(1, "pulls ( ( ( ( ( @12345 ;");
        lineFault(1, "pulls ( ( ( ( (@");
    }

    private static void widest() {
        sentence(0, "E: TEST { and TEST");
        // As many that wait as there can be, in each of 4 brackets: 0 or 0 < 0 + 1 * ( .. ).
        String open = "0 or 0 < 0 + 1 * ( ";
        value(open.repeat(4) + "0 or 0 < 0 + 1 * 1 ) ) ) )", 1);
        value(open.repeat(4) + "0 or 0 < 0 + 1 * 0 ) ) ) )", 0);
        // As long as the TAPE lets it.
        String text = cloth("a", "plain", 1, 0, 0) + "pulls 1";
        String sum = text + "+1".repeat((1000 - text.length() - 1) / 2) + ";";
        told(sum).calls("cloth(0,7)=99");
        told(text + "-1".repeat(2) + "+1".repeat(400) + "-1".repeat(50) + ";").calls("cloth(0,7)=99");
        told(text + "+1".repeat(400) + "-1".repeat(40) + ";").calls("cloth(0,7)=99");
        told(text + "-1+1".repeat(220) + "+6;").calls("cloth(0,7)=7");
    }

    private static void facts() {
        sentence(0, "Facts: wind (of the hour), mass (the CLOTH's weight, and how wet it is; of wool twice how wet), size (its width)");
        String all = cloth("p", "plain", 20, 20, 0) + cloth("s", "sheet", 1, 0, 0) + cloth("f", "flag", 3, 3, 0)
                + cloth("w", "wool", 4, 20, 0);
        told(all + "pulls mass ;").calls("cloth(0,7)=20 cloth(1,7)=0 cloth(2,7)=6 cloth(3,7)=20")
                .calls("wash(0)=0 wash(1)=0 wash(2)=0 wash(3)=0 cloth(0,7)=29 cloth(1,7)=9 cloth(2,7)=24 cloth(3,7)=38");
        told(all + "pulls size ;").calls("cloth(0,7)=20 cloth(1,7)=1 cloth(2,7)=6 cloth(3,7)=4 wash(3)=0 cloth(3,7)=4");
        told(all + "pulls wind ; winds 9 0 ;").calls("cloth(0,7)=9 cloth(2,7)=18 hour()=0 cloth(0,7)=0 hour()=0 cloth(0,7)=9");
    }

    private static void truth() {
        sentence(0, "Of not, and, or, < and = comes 1 or 0; what is not 0 is so; ints wrap.");
        value("not 0", 1);
        value("not 1", 0);
        value("not 2", 0);
        value("not ( 0 - 1 )", 0);
        value("2 and 2", 1);
        value("2 and 0", 0);
        value("0 and 2", 0);
        value("0 and 0", 0);
        value("2 or 2", 1);
        value("0 or 2", 1);
        value("2 or 0", 1);
        value("0 or 0", 0);
        value("0 - 1 and 0 - 1", 1);
        value("( 1 < 2 ) + ( 2 = 2 ) + ( not 0 ) + ( 5 and 6 ) + ( 5 or 6 )", 5);
        // 9999 * 9999 * 21 + 4790 * 9999 + 8416 is 2147483647.
        String most = "9999 * 9999 * 21 + 4790 * 9999 + ";
        value(most + "8416 < 0", 0);
        value(most + "8416", 99);
        value(most + "8417 < 0", 1);
        value(most + "8417", 0);
        String least = "0 - 9999 * 9999 * 21 - 4790 * 9999 - ";
        value(least + "8417 < 0", 1);
        value(least + "8418 < 0", 0);
        value("( " + most + "8416 ) * 2 = 0 - 2", 1);
        value("4096 * 4096 * 256", 0);
        value("4096 * 4096 * 256 + 7", 7);
    }

    private static void without() {
        sentence(0, "Without pulls: wind + size - mass; without dries: wind.");
        told(cloth("p", "plain", 4, 3, 0) + cloth("q", "plain", 1, 20, 0) + "winds 5 0 9 ; pegs 9 9 9 9 ; dries 4 ;")
                .calls("cloth(0,7)=6 cloth(1,7)=0 wash(0)=0 cloth(0,7)=0 hang(0,3)=16 hour()=0 cloth(0,1)=5 cloth(0,7)=0");
        told(cloth("p", "plain", 1, 0, 0) + "winds 5 0 9 ; pegs 9 9 ; pulls 0 ;")
                .calls("wash(0)=0 hang(0,3)=19 hour()=0 cloth(0,1)=4 hour()=0 cloth(0,1)=4 hour()=0 cloth(0,1)=0");
        // What was told in the LINE ahead counts no more.
        told(cloth("p", "plain", 4, 3, 0) + "pulls 1 ; dries 1 ; winds 9 ; gusts 9 ; yards 9 ; pegs 9 ;").put(cloth("p", "plain", 4, 3, 0) + "pegs 9 9 ;")
                .calls("line()=0 cloth(0,7)=4 wash(0)=0 hang(0,3)=16 hour()=0 cloth(0,1)=6 odds(0,8)=1000000");
    }

    // ---- Terms: FAULTS ----

    private static void faultPlaces() {
        sentence(0, "FAULTS, kind + 16 * the place (from 0) of a token, the end being one at the text's length");
        lineFault(1, "@oh");
        lineFault(1, " @oh");
        lineFault(1, "yards@");
        lineFault(1, "yards @");
        lineFault(1, "yards \n @");
        lineFault(1, "yards 5@");
        lineFault(1, "yards 5 ; gusts 5 @");
        dayFault(1, "hour@");
        dayFault(1, "hour  @");
        dayFault(1, "hang@");
        made().put("yards" + blanks(994)).calls("line()=" + (1 + 16 * 999));
        made().put("yards" + blanks(995)).calls("line()=" + (1 + 16 * 1000));
        made().put("yards" + blanks(996)).calls("line()=" + (1 + 16 * 1000));
        made().put(blanks(995) + "yards").calls("line()=" + (1 + 16 * 1000));
        made().put(blanks(999) + "y").calls("line()=" + (1 + 16 * 999));
    }

    private static void firstAndLeast() {
        sentence(0, "of the first token from the left that is wrong the least");
        // Many are wrong: the first one.
        lineFault(4, "yards @0 ; yards 0 ; oh");
        lineFault(3, TWO + "cloth @aa silk wide 0");
        lineFault(2, TWO + "clash @xx yy zz");
        lineFault(4, "pegs 1 @0 10 12345 ;");
        lineFault(1, "pegs 1 @12345 0 ;");
        dayFault(2, "hang @xx 9 9 9");
        dayFault(4, "hang aa 0 @8 0 0 ;");
        // One that is wrong by two: the least.
        lineFault(4, "pegs 1 2 3 4 5 6 7 8 @0 ;");
        lineFault(4, "pegs 1 2 3 4 5 6 7 8 @10 ;");
        lineFault(5, "pegs 1 2 3 4 5 6 7 8 @1 0 ;");
        lineFault(1, "pegs 1 2 3 4 5 6 7 8 @12345 ;");
        lineFault(1, "pegs 1 2 3 4 5 6 7 8 @aa ;");
        lineFault(4, "winds 1 2 3 4 5 6 7 8 9 0 1 2 @10 ;");
        lineFault(5, "winds 1 2 3 4 5 6 7 8 9 0 1 2 @0 ;");
        lineFault(1, "winds 1 2 3 4 5 6 7 8 9 0 1 2 @cloth ;");
        dayFault(3, "hang aa 0 1 2 3 @0 ;");
        dayFault(4, "hang aa 0 1 2 3 @8 ;");
        dayFault(5, "hang aa 0 1 2 3 @4 ;");
        dayFault(1, "hang aa 0 1 2 3 @12345 ;");
        lineFault(1, "pulls not not not not not @) ;");
    }

    /** At each place of the language every token is tried: it can stand there, or it is FAULT 1 at its place. */
    private static void whatCanStand(String call, String ahead, String prefix, String fits) {
        List<String> fit = Arrays.asList(fits.split(" "));
        List<String> tokens = new ArrayList<>(List.of("", "aa", "7"));
        tokens.addAll(Arrays.asList((KEPT + " " + FACTS + " " + SIGNS + " " + BROKEN).split(" ")));
        for (String token : tokens) {
            String text = prefix + token;
            Run run = ahead.isEmpty() ? made() : told(ahead);
            int answer = Integer.parseInt(run.put(text).answer(call + "()"));
            boolean standing = answer == 0 || answer / 16 > prefix.length();
            boolean can = fit.contains(token.isEmpty() ? "END" : token) || (fit.contains("NAME") && NAMES.contains(token));
            check(can ? standing : answer == 1 + 16 * prefix.length(), call + " of " + text + " answered " + answer);
        }
    }

    private static void canStand() {
        sentence(0, "1 it is none, or can't stand there");
        String begins = "cloth pegs winds yards gusts clash pulls dries END";
        String part = "7 wind mass size not (";
        whatCanStand("line", "", "", begins);
        whatCanStand("line", "", "cloth x wool wide 1 weight 1 worth 1 ; ", begins);
        whatCanStand("line", "", "cloth ", "NAME");
        whatCanStand("line", "", "cloth x ", "plain sheet flag wool");
        whatCanStand("line", "", "cloth x wool ", "wide");
        whatCanStand("line", "", "cloth x wool wide ", "7");
        whatCanStand("line", "", "cloth x wool wide 1 ", "weight");
        whatCanStand("line", "", "cloth x wool wide 1 weight ", "7");
        whatCanStand("line", "", "cloth x wool wide 1 weight 1 ", "worth");
        whatCanStand("line", "", "cloth x wool wide 1 weight 1 worth ", "7");
        whatCanStand("line", "", "cloth x wool wide 1 weight 1 worth 1 ", ";");
        whatCanStand("line", "", "pegs ", "7");
        whatCanStand("line", "", "pegs 1 ", "7 ;");
        whatCanStand("line", "", "winds ", "7");
        whatCanStand("line", "", "winds 1 ", "7 ;");
        whatCanStand("line", "", "yards ", "7");
        whatCanStand("line", "", "yards 1 ", ";");
        whatCanStand("line", "", "gusts ", "7");
        whatCanStand("line", "", "gusts 1 ", ";");
        String named = cloth("aa", "plain", 1, 1, 1) + cloth("wind", "plain", 1, 1, 1) + cloth("mass", "plain", 1, 1, 1)
                + cloth("size", "plain", 1, 1, 1) + cloth("x", "plain", 1, 1, 1);
        whatCanStand("line", "", named + "clash ", "NAME");
        whatCanStand("line", "", named + "clash x ", "NAME");
        whatCanStand("line", "", named + "clash x aa ", ";");
        for (String law : "pulls dries".split(" ")) {
            whatCanStand("line", "", law + " ", part);
            whatCanStand("line", "", law + " not ", part);
            whatCanStand("line", "", law + " ( ", part);
            whatCanStand("line", "", law + " 1 ", "and or < = + - * ;");
            whatCanStand("line", "", law + " wind ", "and or < = + - * ;");
            whatCanStand("line", "", law + " not 1 ", "and or < = + - * ;");
            whatCanStand("line", "", law + " ( 1 ) ", "and or < = + - * ;");
            whatCanStand("line", "", law + " 1 < 1 ", "and or + - * ;");
            whatCanStand("line", "", law + " 1 = 1 + 1 ", "and or + - * ;");
            whatCanStand("line", "", law + " 1 = 1 and 1 ", "and or < = + - * ;");
            whatCanStand("line", "", law + " ( 1 ", "and or < = + - * )");
            whatCanStand("line", "", law + " ( 1 < 1 ", "and or + - * )");
            for (String joiner : "and or < = + - *".split(" ")) {
                whatCanStand("line", "", law + " 1 " + joiner + " ", part);
            }
        }
        String acts = "hang take wash buy hour END";
        whatCanStand("day", named, "", acts);
        whatCanStand("day", named, "hour ; ", acts);
        whatCanStand("day", named, "hang ", "NAME");
        whatCanStand("day", named, "hang x ", "7");
        whatCanStand("day", named, "hang x 1 ", "7 ;");
        whatCanStand("day", named, "take ", "NAME");
        whatCanStand("day", named, "take x ", ";");
        whatCanStand("day", named, "wash ", "NAME");
        whatCanStand("day", named, "wash x ", ";");
        whatCanStand("day", named, "buy ", "7");
        whatCanStand("day", named, "buy 1 ", ";");
        whatCanStand("day", named, "hour ", ";");
    }

    private static void noCloth() {
        sentence(0, "2 a NAME of no CLOTH (behind clash, hang, take, wash) told");
        lineFault(2, "clash @aa bb ;");
        lineFault(2, TWO + "clash @xx aa ;");
        lineFault(2, TWO + "clash aa @xx ;");
        lineFault(2, TWO + "clash aa @wind ;");
        lineFault(2, SIX + "clash @xx aa ;");
        lineFault(2, SIX + "clash ff @gg ;");
        told(SIX).put("take gg ;").calls("day()=82").put("take ff ;").calls("day()=0");
        dayFault(2, "hang @xx 1 ;");
        dayFault(2, "take @xx ;");
        dayFault(2, "wash @wind ;");
        // aa is told by the LINE ahead, and by a LINE with a FAULT: by neither it is one now.
        told(TWO).put(cloth("zz", "plain", 1, 1, 1)).calls("line()=0").put("take aa ;").calls("day()=82")
                .put("take zz ;").calls("day()=0");
        told(TWO).put(cloth("zz", "plain", 1, 1, 1) + "oh").calls("line()=" + (1 + 16 * 41)).put("take zz ;")
                .calls("day()=82").put("take aa ;").calls("day()=0");
    }

    private static void toldAlready() {
        sentence(0, "3 a NAME told already; the second one of clash that is the first one or of a pair told;"
                + " a PEG of hang that stands there already; pegs, winds, yards, gusts, pulls, dries a second time");
        lineFault(3, TWO + "cloth @bb");
        lineFault(3, TWO + "clash bb @bb");
        lineFault(3, TWO + "clash aa bb ; clash bb @aa");
        dayFault(3, "hang aa 0 @0");
        dayFault(3, "hang aa 7 0 @7");
        lineFault(3, "pulls 1 ; @pulls");
        // The same PEG in another line of the DAY is fine.
        busy().put("hang aa 0 1 ; take aa ; hang aa 0 1 ;").calls("day()=0 judged(0)=-1");
    }

    private static void numbersNotAsTold() {
        sentence(0, "4 a NUMBER that is not as told");
        lineFault(4, "cloth a plain wide @0");
        lineFault(4, "cloth a plain wide @21");
        lineFault(4, "cloth a plain wide 1 weight @21");
        lineFault(4, "cloth a plain wide 1 weight 0 worth @100");
        lineFault(4, "pegs @0");
        lineFault(4, "pegs @10");
        lineFault(4, "winds @10");
        lineFault(4, "yards @0");
        lineFault(4, "yards @61");
        lineFault(4, "gusts @11");
        dayFault(4, "hang aa @8");
        dayFault(4, "buy @0");
        dayFault(4, "buy @10");
        // In an E all are as told.
        value("0", 0);
        value("9999 - 9998", 1);
    }

    private static void tooMany() {
        sentence(0, "5 one too many: the word cloth of a seventh, a ninth NUMBER of pegs, a thirteenth one of winds,"
                + " a fifth PEG of hang, the first word of a 31st line of a DAY");
        lineFault(5, SIX + "@cloth");
        lineFault(5, "pegs 1 1 1 1 1 1 1 1 @1");
        lineFault(5, "winds 1 1 1 1 1 1 1 1 1 1 1 1 @1");
        dayFault(5, "hang aa 0 1 2 3 @4");
        dayFault(5, "hour ; ".repeat(30) + "@wash");
    }

    // ---- Promises 3 and 4 ----

    private static void newLine() {
        sentence(3, "Without a FAULT a LINE is the LINE from then on: hour 0, all CLOTHS in, dry, without stains, pegs of their grips,"
                + " no DAY, nothing FELT, nothing can be undone, no MARK is there.");
        String again = cloth("aa", "plain", 5, 1, 10) + cloth("bb", "sheet", 6, 2, 30) + cloth("cc", "flag", 2, 0, 7) + "pegs 5 4 6 ;";
        busy().put(again).calls("line()=0 count(0)=3 count(1)=3 count(2)=20 count(3)=20 count(4)=0 count(5)=3 count(6)=0 count(7)=0")
                .calls("count(8)=0 count(9)=0 count(10)=0 count(11)=0 count(12)=0 free()=7 laws()=0 starts()=1 undo()=false")
                .calls("cloth(0,1)=0 cloth(0,3)=0 cloth(1,3)=0 cloth(2,1)=0 cloth(2,2)=0 peg(0,0)=5 peg(1,0)=4 peg(2,0)=6")
                .calls("peg(3,0)=-2 peg(0,1)=-1 mark(0,true)=false mark(1,true)=false mark(2,true)=false mark(3,true)=false")
                .calls("judged(0)=-1 judged(1)=-1 judged(2)=0");
        busy().calls("line()=0 count(0)=0 count(1)=0 count(2)=20 count(4)=0 count(8)=0 count(9)=0 count(10)=0 count(11)=0")
                .calls("cloth(0,0)=-1 free()=0 undo()=false mark(3,true)=false");
        // Nothing is left of the LINES ahead of it, be there three of them, with a FAULT or without.
        String rich = TWO + cloth("cc", "plain", 1, 1, 1) + "clash aa bb ; clash aa cc ; pegs 9 9 ; winds 7 8 ; yards 9 ; gusts 10 ; pulls 50 ; dries 1 ; ";
        String bare = cloth("cc", "plain", 4, 1, 1) + cloth("aa", "plain", 1, 1, 1);
        for (String ahead : new String[] {rich, rich + "oh"}) {
            Run run = made();
            for (int i = 0; i < 3; i++) {
                run.put(ahead).calls("line()=" + (ahead == rich ? 0 : 1 + 16 * rich.length())).put(bare + "clash cc aa ;")
                        .calls("line()=0 count(0)=2 count(1)=0 count(2)=20 count(5)=3 count(8)=1 cloth(0,7)=6 cloth(1,7)=3 starts()=1")
                        // 6 is no more than 8; by a gust it would be 9.
                        .calls("buy(8)=0 hang(0,1)=17 odds(0,1)=1000000 take(0)=true wash(0)=0 hang(0,1)=17 hour()=0 cloth(0,1)=6")
                        .put("take bb ;").calls("day()=82")
                        .put(bare + "clash aa bb").calls("line()=" + (2 + 16 * (bare.length() + 9))).calls("line()=0 count(0)=0 count(8)=0 clashes()=0");
            }
        }
        // Stains and grips of hours are gone with the LINE.
        told(cloth("a", "plain", 1, 0, 4) + "pegs 3 3 ; pulls 99 ;").calls("hang(0,3)=19 hour()=1 cloth(0,2)=1 peg(0,0)=2")
                .put(cloth("a", "plain", 1, 0, 4) + "pegs 3 3 ; pulls 99 ;")
                .calls("line()=0 cloth(0,1)=0 cloth(0,2)=0 peg(0,0)=3 peg(1,0)=3 free()=3 count(4)=0");
    }

    private static void allStays() {
        sentence(3, "0, or its FAULT (all stays then)");
        lineFault(1, cloth("zz", "plain", 1, 1, 1) + "pegs 1 ; winds 0 ; yards 60 ; gusts 10 ; pulls 99 ; dries 9 @oh");
        lineFault(2, cloth("zz", "plain", 1, 1, 1) + "pegs 1 ; clash @aa");
        lineFault(3, "pulls 1 ; dries 1 ; @pulls");
        lineFault(4, "gusts 10 ; winds 9 ; yards @61");
        lineFault(5, SIX + "@cloth");
        sentence(4, "likewise");
        dayFault(1, "hour ; hour ; @oh");
        dayFault(2, "hour ; take @zz");
        dayFault(3, "hour ; hang aa 1 @1");
        dayFault(4, "hour ; buy @10");
        dayFault(5, "hour;".repeat(30) + "@hour");
        // What is read does not do anything yet.
        Run run = busy();
        run.put("hang cc 0 1 ; buy 1 ; hour ;").calls("day()=0 count(4)=2 count(1)=8 count(11)=7 cloth(2,3)=0 count(9)=3");
    }

    private static void theDay() {
        sentence(4, "A DAY is the DAY.");
        made().put("hour;hour;hour;").calls("day()=0 count(9)=3").put("buy 1;").calls("day()=0 count(9)=1")
                .put("buy 0;").calls("day()=68 count(9)=1 day()=0 count(9)=0");
        told(TWO + "pegs 9 9 ;").put("hang aa 0 1 ;").calls("day()=0 judged(2)=1").put("hang bb 0 ;").calls("day()=0 judged(2)=0")
                .put("hang bb 0 1 ; hour ;").calls("day()=0 judged(2)=1").put("oh").calls("line()=1 count(9)=2 judged(2)=1");
    }

    public static void main(String[] args) {
        calls512();
        none();
        newObject();
        bytesInOrder();
        signsLeftOut();
        signsBeyond();
        howMany();
        taken();
        longestTokens();
        blanksBetween();
        wordsOf8();
        numbersOf4();
        signsThatStand();
        noTokens();
        sixCloths();
        kinds();
        wide();
        weight();
        worth();
        pegsTold();
        windsTold();
        yardsTold();
        gustsTold();
        clashTold();
        onceEach();
        anyNumber();
        dayPegs();
        thirtyLines();
        names();
        order();
        parts();
        partsWithin();
        widest();
        facts();
        truth();
        without();
        faultPlaces();
        firstAndLeast();
        canStand();
        noCloth();
        toldAlready();
        numbersNotAsTold();
        tooMany();
        newLine();
        allStays();
        theDay();
        finish();
    }
}
