/** Edges of what is asked of a LINE: promises 16 to 29. */
public final class PlanningEdgesTest extends Edges {
    /** A CLOTH falls in an hour of wind 9, and never else. */
    private static final String FALL_BY_9 = "pulls ( wind = 9 ) * 99 ; ";
    /** Without winds told: a CLOTH falls in an hour that is gusty, and never else. */
    private static final String FALL_BY_GUSTS = "pulls ( wind = 6 ) * 99 ; ";
    private static final String EIGHT_PEGS = "pegs 9 9 9 9 9 9 9 9 ; ";

    private static String plain(String name, int wide, int worth) {
        return cloth(name, "plain", wide, 0, worth);
    }

    // ---- Promise 16 ----

    private static void holdsForty() {
        sentence(16, "HOLDS: in how many HOURS (1 to 40) a CLOTH that hangs has FALLEN, if nothing else is done.");
        told(plain("p", 1, 0) + "pegs 2 2 ; pulls 5 ;").calls("hang(0,3)=19 holds(0)=1 hour()=1");
        told(plain("p", 1, 0) + "pegs 2 2 ; pulls 3 ;").calls("hang(0,3)=19 holds(0)=2 hour()=0 holds(0)=1 hour()=1 holds(0)=-1");
        // Worn out is fallen as well: 1 of 1.
        told(plain("p", 1, 0) + "pegs 1 ; pulls 1 ;").calls("hang(0,1)=19 holds(0)=1");
        // Worn to 16, 14, 12, 10, 8 by 10 in every 7th hour; the sixth of them is the 40th hour.
        String worn = plain("p", 1, 0) + "pegs 9 9 ; pulls wind + 1 ; winds ";
        told(worn + "0 0 0 9 0 0 0 ;").calls("hang(0,3)=19 holds(0)=39");
        told(worn + "0 0 0 0 9 0 0 ;").calls("hang(0,3)=19 holds(0)=40 hour()=0 holds(0)=39");
        told(worn + "0 0 0 0 9 0 0 ;").calls("hang(0,3)=19").times(39, "hour()=0").calls("holds(0)=1 hour()=1 holds(0)=-1");
        told(worn + "0 0 0 0 0 9 0 ;").calls("hang(0,3)=19 holds(0)=-1 hour()=0 holds(0)=40");
        told(worn + "0 0 0 0 0 0 9 ;").calls("hang(0,3)=19 holds(0)=-1 hour()=0 holds(0)=-1 hour()=0 holds(0)=40");
        // Gusts have no part in it, nor have others.
        told(plain("p", 1, 0) + plain("q", 1, 0) + EIGHT_PEGS + FALL_BY_GUSTS + "gusts 10 ;").calls("hang(0,3)=19 hang(1,12)=18 holds(0)=-1");
        told(plain("p", 1, 0) + plain("q", 9, 0) + "pegs 4 4 4 4 ; pulls size ;").calls("hang(0,3)=19 hang(1,12)=10 holds(0)=-1 holds(1)=1 take(1)=true holds(0)=-1");
        // It dries, and so it is pulled more.
        told(plain("p", 1, 0) + "pegs 5 5 ; pulls 14 - mass ; dries 2 ;").calls("wash(0)=0 hang(0,3)=19 holds(0)=3");
        sentence(16, "HOLDS; NONE: others, it is in, not within 40.");
        busy().refused("holds(2)=-1 holds(-1)=-1 holds(3)=-1 holds(6)=-1 holds(" + MIN + ")=-1 holds(" + MAX + ")=-1");
        told(plain("p", 1, 0) + "pegs 9 9 ; pulls 0 ;").calls("holds(0)=-1 hang(0,3)=19 holds(0)=-1 take(0)=true holds(0)=-1");
    }

    // ---- Promises 17 and 18 ----

    private static void clashesBoth() {
        sentence(17, "CLASHES: told pairs that are both LAW.");
        made().calls("clashes()=0");
        String two = plain("a", 1, 5) + plain("b", 1, 4);
        told(two + EIGHT_PEGS).calls("hang(0,3)=19 hang(1,12)=18 clashes()=0");
        told(two + EIGHT_PEGS + "clash b a ;").calls("clashes()=0 hang(0,3)=19 clashes()=0 hang(1,12)=18 clashes()=1 take(0)=true clashes()=0")
                .calls("hang(0,1)=18 clashes()=0 take(0)=true hang(0,3)=18 clashes()=1");
        // With 2 stains it is LAW, with 3 it is none.
        told(two + EIGHT_PEGS + FALL_BY_9 + "winds 9 ; clash a b ;").times(2, "hang(0,3)=19 hour()=1")
                .calls("hang(0,3)=19 hang(1,12)=18 clashes()=1 take(1)=true hour()=1 hang(0,3)=19 hang(1,12)=18 clashes()=0");
        String four = plain("a", 1, 1) + plain("b", 1, 1) + plain("c", 1, 1) + plain("d", 1, 1) + EIGHT_PEGS;
        told(four + "clash a b ; clash a c ; clash a d ; clash b c ; clash b d ; clash c d ;")
                .calls("hang(0,3)=19 hang(1,12)=18 clashes()=1 hang(2,48)=17 clashes()=3 hang(3,192)=16 clashes()=6 count(8)=6")
                // Three of four must come in, the least set.
                .calls("mend(0)=3 mend(1)=7 take(2)=true clashes()=3 mend(0)=2 mend(1)=3");
    }

    /** The three hang as LAWS, a clashes with c, b clashes with c. */
    private static void mend(int a, int b, int c, int worth, int set) {
        told(plain("a", 1, a) + plain("b", 1, b) + plain("c", 1, c) + EIGHT_PEGS + "clash a c ; clash c b ;")
                .calls("hang(0,3)=19 hang(1,12)=18 hang(2,48)=17 mend(0)=" + worth + " mend(1)=" + set);
    }

    private static void mendLeast() {
        sentence(18, "MEND: LAWS to be taken in so that none CLASH: the least worth together; of equal ones the least set (bits).");
        made().calls("mend(0)=0 mend(1)=0");
        mend(1, 1, 1, 1, 4);
        mend(1, 1, 2, 2, 3);
        mend(1, 1, 3, 2, 3);
        mend(2, 2, 3, 3, 4);
        mend(99, 99, 99, 99, 4);
        mend(0, 0, 1, 0, 3);
        // {c} is worth 0 too, but a and b together are the lesser set.
        mend(0, 0, 0, 0, 3);
        mend(0, 1, 0, 0, 4);
        String two = plain("a", 1, 5) + plain("b", 1, 5) + plain("c", 1, 0) + EIGHT_PEGS + "clash a b ;";
        told(two).calls("hang(0,3)=19 hang(2,12)=18 mend(0)=0 mend(1)=0 hang(1,48)=17 mend(0)=5 mend(1)=1");
        told(plain("a", 1, 0) + plain("b", 1, 0) + EIGHT_PEGS + "clash a b ;").calls("hang(0,3)=19 hang(1,12)=18 mend(0)=0 mend(1)=1");
        // One that is TURNED need not come in.
        told(two).calls("hang(0,3)=19 hang(1,4)=18 mend(0)=0 mend(1)=0");
        sentence(18, "MEND, what 0: worth, 1: CLOTHS as bits; NONE: others.");
        busy().refused("mend(-1)=-1 mend(2)=-1 mend(" + MIN + ")=-1 mend(" + MAX + ")=-1 mend(0)=10 mend(1)=1 clashes()=1");
    }

    // ---- Promise 19 ----

    private static void fillHours() {
        sentence(19, "FILL for so many (1 to 6) HOURS");
        String winds = plain("a", 1, 5) + "pegs 2 2 ; pulls wind ; winds ";
        told(winds + "4 4 4 4 4 4 5 ;").calls("fill(1,-1)=5 fill(2,-1)=5 fill(5,-1)=5 fill(6,-1)=5 fill(6,0)=3 fill(7,-1)=-2 fill(0,-1)=-2 fill(7,0)=-2 fill(0,0)=-2");
        told(winds + "4 4 4 4 4 5 ;").calls("fill(1,-1)=5 fill(5,-1)=5 fill(5,0)=3 fill(6,-1)=0 fill(6,0)=0 hour()=0 fill(4,-1)=5 fill(5,-1)=0");
        told(winds + "5 4 4 4 4 4 ;").calls("fill(1,-1)=0 hour()=0 fill(1,-1)=5 fill(5,-1)=5 fill(6,-1)=0");
        sentence(19, "FILL, cloth NONE: worth; else its PEGS as bits (0: none); -2: others.");
        busy().refused("fill(0,-1)=-2 fill(7,-1)=-2 fill(-1,0)=-2 fill(" + MIN + ",0)=-2 fill(" + MAX + ",-1)=-2 fill(1,-2)=-2 fill(1,3)=-2"
                + " fill(1,6)=-2 fill(1," + MIN + ")=-2 fill(1," + MAX + ")=-2 fill(0,-2)=-2 fill(6,3)=-2");
        made().calls("fill(1,-1)=0 fill(6,-1)=0 fill(1,0)=-2 fill(0,-1)=-2 fill(7,-1)=-2");
        told(plain("a", 1, 5)).calls("fill(1,-1)=0 fill(1,0)=0 fill(1,1)=-2");
    }

    private static void fillStains() {
        sentence(19, "all CLOTHS taken in, some of those with fewer than 3 stains hung by 2 PEGS each (a sheet 4; none split)");
        String fall = EIGHT_PEGS + FALL_BY_9;
        told(plain("a", 1, 5) + fall + "winds 9 9 0 ;").times(2, "hang(0,3)=19 hour()=1").calls("cloth(0,2)=2 fill(1,-1)=5 fill(1,0)=3");
        told(plain("a", 1, 5) + fall + "winds 9 9 9 0 ;").times(3, "hang(0,3)=19 hour()=1")
                .calls("cloth(0,2)=3 fill(1,-1)=0 fill(1,0)=0 wash(0)=3 fill(1,-1)=5");
        String sheet = cloth("s", "sheet", 1, 0, 7);
        told(sheet + "pegs 9 9 9 ; pulls 0 ;").calls("fill(1,-1)=0 fill(1,0)=0 buy(1)=3 fill(1,-1)=7 fill(1,0)=15");
        told(plain("a", 1, 5) + "pegs 9 ; pulls 0 ;").calls("fill(1,-1)=0 buy(1)=1 fill(1,-1)=5 fill(1,0)=3");
        // PEG 0 is split by the first hour.
        told(sheet + plain("p", 1, 0) + "pegs 1 9 9 9 ; " + FALL_BY_9 + "winds 9 0 ;")
                .calls("hang(1,1)=19 hour()=1 peg(0,0)=0 fill(1,-1)=0 fill(1,0)=0 fill(1,1)=6 buy(9)=4 fill(1,-1)=7 fill(1,0)=30 fill(1,1)=0");
        // What hangs now, and by which PEGS, has no part in it.
        String three = plain("a", 6, 5) + plain("b", 6, 5) + plain("c", 6, 9) + "pegs 9 9 9 9 ; yards 12 ; pulls 0 ; ";
        told(three).calls("fill(1,-1)=14 fill(1,0)=3 fill(1,1)=0 fill(1,2)=12 hang(1,5)=6 hang(0,2)=2")
                .refused("fill(1,-1)=14 fill(1,0)=3 fill(1,1)=0 fill(1,2)=12");
    }

    private static void fillWidths() {
        sentence(19, "all their widths together no more than yards");
        String two = plain("a", 6, 5) + plain("b", 6, 5) + "pegs 9 9 9 9 ; pulls 0 ; yards ";
        told(two + "13 ;").calls("fill(1,-1)=10");
        told(two + "12 ;").calls("fill(1,-1)=10 fill(1,0)=3 fill(1,1)=12");
        told(two + "11 ;").calls("fill(1,-1)=5 fill(1,0)=3 fill(1,1)=0");
        told(two + "6 ;").calls("fill(1,-1)=5");
        told(two + "5 ;").calls("fill(1,-1)=0 fill(1,0)=0 fill(1,1)=0");
        told(plain("a", 20, 1) + plain("b", 20, 1) + plain("c", 20, 1) + plain("d", 1, 1) + EIGHT_PEGS + "pulls 0 ; yards 60 ;")
                .calls("fill(1,-1)=3 fill(1,0)=3 fill(1,1)=12 fill(1,2)=48 fill(1,3)=0");
        told(plain("a", 20, 99) + plain("b", 20, 99) + plain("c", 19, 99) + plain("d", 1, 99) + EIGHT_PEGS + "pulls 0 ; yards 60 ;")
                .calls("fill(6,-1)=396 fill(1,3)=192");
    }

    private static void fillGrips() {
        sentence(19, "for each of which the grips of its PEGS (as they are now) are no less than what pulls at it in each of these HOURS");
        told(plain("a", 1, 5) + "pegs 2 2 ; pulls 3 ;").calls("fill(1,-1)=5");
        // 4 is no less than 4, and for all the HOURS, though they would wear out.
        told(plain("a", 1, 5) + "pegs 2 2 ; pulls 4 ;").calls("fill(1,-1)=5 fill(6,-1)=5");
        told(plain("a", 1, 5) + "pegs 2 2 ; pulls 5 ;").calls("fill(1,-1)=0");
        told(cloth("f", "flag", 1, 0, 5) + "pegs 2 2 ; pulls 2 ;").calls("fill(1,-1)=5");
        told(cloth("f", "flag", 1, 0, 5) + "pegs 2 2 ; pulls 3 ;").calls("fill(1,-1)=0");
        told(cloth("s", "sheet", 1, 0, 5) + "pegs 9 9 9 9 ; pulls 36 ;").calls("fill(1,-1)=5");
        told(cloth("s", "sheet", 1, 0, 5) + "pegs 9 9 9 9 ; pulls 37 ;").calls("fill(1,-1)=0");
        // Worn to 4 and 4 by the first hour, which 9 is more than.
        told(plain("a", 1, 5) + "pegs 5 5 ; pulls 9 ;").calls("fill(1,-1)=5 hang(0,3)=19 hour()=0 fill(1,-1)=0 undo()=true fill(1,-1)=5");
        sentence(19, "(wet as now at first, drying as if it hung)");
        // Wet by 9 it is pulled by 3, then by 5, then by 7.
        Run wet = told(plain("a", 1, 5) + "pegs 3 3 ; pulls 12 - mass ; dries 2 ;").calls("fill(1,-1)=0 wash(0)=0");
        wet.calls("fill(1,-1)=5 fill(2,-1)=5 fill(3,-1)=0 cloth(0,1)=9 hang(0,3)=19 hour()=0 cloth(0,1)=7 fill(1,-1)=5 fill(2,-1)=0");
        // Of wool: 25 - 18 is 7, 25 - 14 is 11.
        told(cloth("w", "wool", 1, 0, 5) + "pegs 3 4 ; pulls 25 - mass ; dries 2 ;").calls("wash(0)=0 fill(1,-1)=5 fill(2,-1)=0");
        told(cloth("w", "wool", 1, 0, 5) + "pegs 5 6 ; pulls 25 - mass ; dries 2 ;").calls("wash(0)=0 fill(2,-1)=5 fill(3,-1)=0");
    }

    private static void fillRows() {
        sentence(19, "the most worth; of equal ones the first row (of CLOTHS, by numbers, PEGS as bits, the least first, none behind all)");
        String p = "pulls 0 ; ";
        // Hung for nothing, since none is behind all.
        told(plain("a", 1, 0) + plain("b", 1, 5) + "pegs 9 9 9 9 ; " + p).calls("fill(1,-1)=5 fill(1,0)=3 fill(1,1)=12");
        told(plain("a", 1, 0) + plain("b", 1, 5) + "pegs 9 9 9 ; " + p).calls("fill(1,-1)=5 fill(1,0)=0 fill(1,1)=3");
        told(plain("a", 1, 0) + plain("b", 1, 0) + "pegs 9 9 ; " + p).calls("fill(1,-1)=0 fill(1,0)=3 fill(1,1)=0");
        told(plain("a", 1, 5) + plain("b", 1, 5) + plain("c", 1, 5) + "pegs 9 9 9 9 ; " + p).calls("fill(1,-1)=10 fill(1,0)=3 fill(1,1)=12 fill(1,2)=0");
        told(plain("a", 1, 5) + plain("b", 1, 5) + plain("c", 1, 6) + "pegs 9 9 9 9 ; " + p).calls("fill(1,-1)=11 fill(1,0)=3 fill(1,1)=0 fill(1,2)=12");
        told(plain("a", 1, 4) + plain("b", 1, 5) + plain("c", 1, 5) + "pegs 9 9 9 9 ; " + p).calls("fill(1,-1)=10 fill(1,0)=0 fill(1,1)=3 fill(1,2)=12");
        // A sheet of 10, or two of 5: what is told first hangs.
        String sheet = cloth("s", "sheet", 1, 0, 10);
        told(sheet + plain("a", 1, 5) + plain("b", 1, 5) + "pegs 9 9 9 9 ; " + p).calls("fill(1,-1)=10 fill(1,0)=15 fill(1,1)=0 fill(1,2)=0");
        told(plain("a", 1, 5) + sheet + plain("b", 1, 5) + "pegs 9 9 9 9 ; " + p).calls("fill(1,-1)=10 fill(1,0)=3 fill(1,1)=0 fill(1,2)=12");
        // a needs 2, b needs 18: the least bits by which b can hang as well.
        told(plain("a", 2, 1) + plain("b", 18, 1) + "pegs 9 9 1 1 ; pulls size ;").calls("fill(1,-1)=2 fill(1,0)=12 fill(1,1)=3");
        told(plain("b", 18, 1) + plain("a", 2, 1) + "pegs 1 9 1 9 ; pulls size ;").calls("fill(1,-1)=2 fill(1,0)=10 fill(1,1)=5");
        told(plain("a", 2, 1) + plain("b", 10, 1) + "pegs 9 1 9 1 ; pulls size ;").calls("fill(1,-1)=2 fill(1,0)=3 fill(1,1)=12");
        told(plain("a", 10, 1) + plain("b", 10, 1) + "pegs 1 1 9 9 ; pulls size ;").calls("fill(1,-1)=2 fill(1,0)=5 fill(1,1)=10");
        // All six of them and all eight PEGS: the sheet by the last 4 of 8, or none.
        String many = plain("a", 1, 1) + plain("b", 1, 1) + cloth("s", "sheet", 1, 0, 9) + plain("c", 1, 1) + plain("d", 1, 1) + plain("e", 1, 1);
        told(many + EIGHT_PEGS + p).calls("fill(6,-1)=11 fill(6,0)=3 fill(6,1)=12 fill(6,2)=240 fill(6,3)=0 fill(6,4)=0 fill(6,5)=0 fill(6,6)=-2");
        told(many.replace("worth 9", "worth 1") + EIGHT_PEGS + p).calls("fill(1,-1)=4 fill(1,0)=3 fill(1,1)=12 fill(1,2)=0 fill(1,3)=48 fill(1,4)=192 fill(1,5)=0");
        told(many.replace("worth 9", "worth 2") + EIGHT_PEGS + p).calls("fill(1,-1)=4 fill(1,0)=3 fill(1,1)=12 fill(1,2)=240 fill(1,3)=0");
        told(many + EIGHT_PEGS + "pulls 99 ;").calls("fill(1,-1)=0 fill(1,0)=0 fill(1,5)=0");
        // By PEGS as they are now, each time anew: 0 and 1 are worn to 1 and 1 by the hour, and hold 4 no more.
        told(plain("a", 4, 1) + plain("b", 4, 1) + "pegs 2 2 2 2 ; pulls size ;")
                .calls("fill(1,-1)=2 fill(1,0)=3 fill(1,1)=12 hang(0,3)=16 hour()=0 fill(1,-1)=1 fill(1,0)=12 fill(1,1)=0 undo()=true fill(1,-1)=2 fill(1,1)=12");
        // A sheet by the least 4 of 8 that hold 20.
        told(cloth("s", "sheet", 20, 0, 1) + "pegs 1 1 1 1 5 5 5 5 ; pulls size ;").calls("fill(1,-1)=1 fill(1,0)=240");
        told(cloth("s", "sheet", 16, 0, 1) + "pegs 1 1 1 1 5 5 5 5 ; pulls size ;").calls("fill(1,-1)=1 fill(1,0)=113");
    }

    // ---- Promise 20 ----

    private static void odds(int gusts, int hours, int chance) {
        told(plain("p", 1, 0) + "pegs 9 9 ; " + FALL_BY_GUSTS + "gusts " + gusts + " ;").calls("hang(0,3)=19 odds(0," + hours + ")=" + chance);
        // The other way round it falls by each hour without a gust.
        told(plain("p", 1, 0) + "pegs 9 9 ; pulls ( wind = 3 ) * 99 ; gusts " + (10 - gusts) + " ;").calls("hang(0,3)=19 odds(0," + hours + ")=" + chance);
    }

    private static void oddsCut() {
        sentence(20, "the chance, in millionths, cut, that a CLOTH that hangs has not FALLEN behind so many (1 to 8) HOURS");
        odds(0, 1, 1000000);
        odds(0, 8, 1000000);
        odds(10, 1, 0);
        odds(10, 8, 0);
        odds(3, 1, 700000);
        odds(3, 2, 490000);
        odds(1, 8, 430467);
        odds(3, 8, 57648);
        odds(7, 7, 218);
        odds(7, 8, 65);
        odds(9, 6, 1);
        odds(9, 7, 0);
        sentence(20, "each hour is gusty by told odds: its wind is 3 more then");
        told(plain("p", 1, 0) + "pegs 9 9 ; pulls ( wind = 12 ) * 99 ; winds 9 8 ; gusts 5 ;").calls("hang(0,3)=19 odds(0,1)=500000 odds(0,2)=500000 odds(0,3)=250000")
                .calls("hour()=0 odds(0,1)=1000000 odds(0,2)=500000");
        // From now on, one behind another: 1, then 2, then 0 again; a gust lets it fall in the hours of 1.
        Run winds = told(plain("p", 1, 0) + "pegs 9 9 ; pulls ( wind = 4 ) * 99 ; winds 0 1 2 ; gusts 5 ;").calls("hang(0,3)=19");
        winds.calls("odds(0,1)=1000000 odds(0,2)=500000 odds(0,4)=500000 odds(0,5)=250000 odds(0,8)=125000 hour()=0")
                .calls("odds(0,1)=500000 odds(0,3)=500000 odds(0,4)=250000 hour()=0 odds(0,2)=1000000 odds(0,3)=500000");
        // Dried by a gust to 6, it falls in the next hour.
        told(plain("p", 1, 0) + "pegs 9 9 ; pulls ( mass < 7 ) * 99 ; winds 0 ; gusts 4 ;")
                .calls("wash(0)=0 hang(0,3)=19 odds(0,1)=1000000 odds(0,2)=600000 odds(0,3)=360000");
        // Worn out by a gust: 1 and 1 hold 1, and 2 is too much for them behind that hour.
        told(plain("p", 1, 0) + "pegs 1 1 ; pulls 1 + ( wind = 6 ) ; gusts 4 ;").calls("hang(0,3)=19 odds(0,1)=600000 odds(0,2)=360000");
        // 4 of 4 holds, worn to 2, which 4 is more than; 0 wears nothing.
        told(plain("p", 1, 0) + "pegs 2 2 ; pulls 4 * ( wind = 6 ) ; gusts 5 ;").calls("hang(0,3)=19 odds(0,1)=1000000 odds(0,2)=750000 odds(0,3)=500000");
        sentence(20, "if nothing else is done (by itself alone)");
        told(plain("p", 1, 0) + plain("q", 9, 0) + "pegs 2 2 1 1 ; pulls 4 * ( wind = 6 ) + ( size = 9 ) * 99 ; gusts 5 ;")
                .calls("hang(0,3)=19 hang(1,12)=10 odds(0,3)=500000 odds(1,1)=0 odds(1,8)=0");
        sentence(20, "ODDS; NONE: others, it is in.");
        busy().refused("odds(2,1)=-1 odds(-1,1)=-1 odds(3,1)=-1 odds(" + MIN + ",1)=-1 odds(" + MAX + ",1)=-1 odds(0,0)=-1 odds(0,-1)=-1 odds(0,9)=-1"
                + " odds(0," + MIN + ")=-1 odds(0," + MAX + ")=-1 odds(2,0)=-1");
        told(plain("p", 1, 0) + "pegs 9 9 ; pulls 0 ;").calls("odds(0,1)=-1 hang(0,3)=19 odds(0,1)=1000000 odds(0,8)=1000000 odds(0,9)=-1 odds(0,0)=-1 take(0)=true odds(0,1)=-1");
    }

    // ---- Promise 21 ----

    private static void dryNone() {
        sentence(21, "all CLOTHS that are in and have a stain, one WASHED ahead of each HOUR from now on (of none: 0)");
        made().calls("dry(0)=0 dry(1)=-1");
        String fall = EIGHT_PEGS + FALL_BY_9 + "winds 9 1 ; ";
        Run run = told(plain("a", 1, 0) + plain("b", 1, 0) + fall + "dries 3 ;").calls("dry(0)=0 dry(1)=-1 wash(1)=0 dry(0)=0 hang(0,3)=19 dry(0)=0 hour()=1");
        run.calls("cloth(0,2)=1 dry(0)=3 dry(1)=0 dry(2)=-1");
        // While it hangs it is none of them, with its stain; taken in it is washed anew, however dry.
        run.calls("hang(0,3)=19 dry(0)=0 dry(1)=-1 hour()=0 cloth(0,1)=6 take(0)=true dry(0)=3 dry(1)=0 wash(0)=1 dry(0)=0 dry(1)=-1");
        // Six of them: one an hour.
        String six = plain("a", 1, 0) + plain("b", 1, 0) + plain("c", 1, 0) + plain("d", 1, 0) + plain("e", 1, 0) + plain("f", 1, 0);
        told(six + fall + "dries 9 ;").calls("hang(0,1)=19 hang(1,2)=18 hang(2,4)=17 hang(3,8)=16 hang(4,16)=15 hang(5,32)=14 hour()=6")
                .refused("dry(0)=6 dry(1)=0 dry(2)=1 dry(3)=2 dry(4)=3 dry(5)=4 dry(6)=5 dry(7)=-1");
    }

    private static void dryAsIf() {
        sentence(21, "hung at once (as if there were PEGS, ROOM, no FALL)");
        // The one PEG is split, the CLOTH wider than the line, each hour lets it fall.
        told(plain("a", 20, 0) + "pegs 1 ; yards 11 ; pulls 99 ; dries 4 ;").calls("hang(0,1)=0 hour()=1 free()=0 dry(0)=3 dry(1)=0 dry(2)=-1");
        told(plain("a", 20, 0) + plain("b", 20, 0) + "pegs 1 1 ; yards 22 ; pulls 99 ; dries 9 ;")
                .calls("hang(0,1)=11 hang(1,2)=0 hour()=2 dry(0)=2 dry(1)=0 dry(2)=1 dry(3)=-1");
        // It dries by the mass that it has, from 9 on: of wool 18, 10, 2.
        told(cloth("w", "wool", 1, 0, 0) + "pegs 1 ; pulls 99 ; dries 4 * ( 9 < mass ) + ( mass < 9 ) ;").calls("hang(0,1)=19 hour()=1 dry(0)=3");
    }

    /** Two that fell, the first so wide, the second so wide; an hour dries as much as a CLOTH is wide. */
    private static Run twoToDry(int a, int b) {
        return told(plain("a", a, 0) + plain("b", b, 0) + EIGHT_PEGS + FALL_BY_9 + "winds 9 1 ; dries size ;")
                .calls("hang(0,1)=" + (20 - a / 2 - 1) + " hang(1,2)=" + (20 - a / 2 - 1 - b / 2 - 1) + " hour()=2");
    }

    private static void dryOrder() {
        sentence(21, "in which order all are dry the soonest: behind how many HOURS; of equal ones the first row; the order");
        // 9 and 1 hours: the slow one first.
        twoToDry(9, 1).calls("dry(0)=9 dry(1)=1 dry(2)=0 dry(3)=-1");
        twoToDry(1, 9).calls("dry(0)=9 dry(1)=0 dry(2)=1 dry(3)=-1");
        // 3 and 2 hours: 3, or 4 the other way round.
        twoToDry(3, 5).calls("dry(0)=3 dry(1)=0 dry(2)=1");
        twoToDry(5, 3).calls("dry(0)=3 dry(1)=1 dry(2)=0");
        // 2 and 2: behind 3 either way.
        twoToDry(5, 5).calls("dry(0)=3 dry(1)=0 dry(2)=1");
        twoToDry(5, 8).calls("dry(0)=3 dry(1)=0 dry(2)=1");
        twoToDry(8, 5).calls("dry(0)=3 dry(1)=0 dry(2)=1");
        // 9 hours, 5 and 3: the first one first, then any.
        told(plain("c", 3, 0) + plain("b", 2, 0) + plain("a", 1, 0) + EIGHT_PEGS + FALL_BY_9 + "winds 9 1 ; dries size ;")
                .calls("hang(0,3)=17 hang(1,12)=15 hang(2,48)=14 hour()=3 dry(0)=9 dry(1)=2 dry(2)=0 dry(3)=1 dry(4)=-1");
        // Less by 1 in the hours 3, 6 .. 27, also if washed an hour later; from hour 3 on the second one misses that, till hour 30.
        Run winds = told(plain("a", 1, 0) + plain("b", 1, 0) + EIGHT_PEGS + FALL_BY_9 + "winds 9 1 1 ; dries wind = 9 ;")
                .calls("hang(0,1)=19 hang(1,2)=18 hour()=2");
        winds.calls("dry(0)=27 dry(1)=0 dry(2)=1 hour()=0 dry(0)=26 hour()=0 dry(0)=28");
    }

    private static void dryWithin() {
        sentence(21, "DRY, what 0: HOURS, 1 + i: the i-th CLOTH; NONE: others, not within 99.");
        String fall = plain("a", 1, 0) + EIGHT_PEGS + FALL_BY_9;
        // Less by 1 in each 11th hour: the ninth of them is the 99th from hour 1 on.
        told(fall + "winds 9 1 1 1 1 1 1 1 1 1 1 ; dries wind = 9 ;")
                .calls("hang(0,3)=19 hour()=1 dry(0)=99 dry(1)=0 dry(2)=-1 hour()=0 dry(0)=98 dry(1)=0");
        // In each 12th one: of hour 1 on it is the 108th, of hour 9 on the 100th.
        told(fall + "winds 9 1 1 1 1 1 1 1 1 1 1 1 ; dries wind = 9 ;").calls("hang(0,3)=19 hour()=1 dry(0)=-1 dry(1)=-1 dry(2)=-1")
                .times(8, "hour()=0").calls("dry(0)=-1 dry(1)=-1 hour()=0 dry(0)=99 dry(1)=0 hour()=0 dry(0)=98");
        told(fall + "winds 9 1 ; dries 0 ;").calls("hang(0,3)=19 hour()=1").refused("dry(0)=-1 dry(1)=-1 dry(2)=-1");
        // Of two the second one, washed an hour later: the 99th is its last as well; if not both are dry, none is told.
        told(plain("a", 1, 0) + plain("b", 2, 0) + EIGHT_PEGS + FALL_BY_9 + "winds 9 1 ; dries size = 2 ;")
                .calls("hang(0,3)=19 hang(1,12)=17 hour()=2 dry(0)=-1 dry(1)=-1 dry(2)=-1 wash(0)=1 dry(0)=9 dry(1)=1");
        busy().refused("dry(-1)=-1 dry(1)=-1 dry(7)=-1 dry(" + MIN + ")=-1 dry(" + MAX + ")=-1 dry(0)=0");
    }

    // ---- Promises 22 to 24 ----

    private static void feelOthers() {
        sentence(22, "FELT: that behind so many (0 to 12) HOURS a CLOTH of a KIND, weight, width as a told one's,"
                + " wet by 9 at first, was wet by so much (0 to 9); 8 at most.");
        String two = plain("a", 1, 0) + cloth("w", "wool", 1, 0, 0);
        told(two).refused("feel(-1,0,9)=false feel(2,0,9)=false feel(" + MIN + ",0,9)=false feel(" + MAX + ",0,9)=false feel(0,-1,9)=false"
                + " feel(0,13,9)=false feel(0," + MIN + ",9)=false feel(0," + MAX + ",9)=false feel(0,0,-1)=false feel(0,0,10)=false"
                + " feel(0,0," + MIN + ")=false feel(0,0," + MAX + ")=false");
        told(two).calls("feel(0,0,9)=true feel(1,0,9)=true feel(0,12,0)=true feel(0,12,9)=true feel(0,0,0)=true count(10)=5");
        Run eight = told(two).times(7, "feel(0,0,9)=true").calls("count(10)=7 feel(1,1,6)=true count(10)=8");
        eight.refused("feel(0,0,9)=false feel(1,0,9)=false feel(0,0,10)=false");
        sentence(22, "FELT: true; false: others, 8 there are.");
        told(two).times(8, "feel(0,0,8)=true").times(3, "feel(0,0,8)=false").calls("count(10)=8 starts()=0");
        made().refused("feel(0,0,9)=false feel(-1,0,9)=false");
        // By weight, width and wool: it dries by mass + size - 12 here.
        told(cloth("a", "plain", 3, 2, 0) + cloth("b", "plain", 4, 2, 0) + cloth("c", "plain", 3, 3, 0) + cloth("d", "wool", 3, 2, 0)
                + "dries mass + size - 12 ;").calls("feel(0,1,7)=true starts()=1 feel(1,1,6)=true starts()=1 feel(2,1,6)=true starts()=1")
                .calls("feel(3,1,0)=true starts()=1 feel(0,2,7)=true starts()=1 feel(0,2,6)=true starts()=0");
    }

    private static void startsSo() {
        sentence(23, "STARTS: places (from 0) of winds told (0 alone if none are) of the hour that it was at first, by which all FELT is so (bits).");
        told(plain("a", 1, 0)).calls("starts()=1 feel(0,1,6)=true starts()=1 feel(0,2,3)=true feel(0,3,0)=true feel(0,12,0)=true starts()=1 feel(0,2,4)=true starts()=0");
        made().calls("starts()=1");
        told(plain("a", 1, 0) + "winds 7 ;").calls("starts()=1 feel(0,1,2)=true starts()=1");
        String winds = plain("a", 1, 0) + "winds 0 1 2 3 4 5 6 7 8 9 0 0 ;";
        told(winds).calls("starts()=4095 feel(0,0,9)=true starts()=4095 feel(0,1,9)=true starts()=3073 feel(0,2,9)=true starts()=3072 feel(0,3,8)=true starts()=2048");
        told(winds).calls("feel(0,0,8)=true starts()=0");
        told(winds).calls("feel(0,1,0)=true starts()=512");
        // From the last place the winds go on with the first one: 0 0 1 2.
        told(winds).calls("feel(0,4,6)=true starts()=2048");
        // Of 12 HOURS from any place all 12 of them: 45 in all, more than 9.
        told(winds).calls("feel(0,12,0)=true starts()=4095 feel(0,12,1)=true starts()=0");
        // The hour that it is now has no part in it.
        told(winds).calls("hour()=0 hour()=0 feel(0,1,8)=true starts()=2 hour()=0 starts()=2 undo()=true count(10)=1 starts()=2");
    }

    private static void askLeast() {
        sentence(24, "ASK for a CLOTH: HOURS (0 to 12) by which the greatest number of STARTS with like wetness is the least,"
                + " if it is less than all; of equal ones the first.");
        // Behind 1: 8 8 7 6; behind 2: 7 6 4 5, each another.
        told(plain("a", 1, 0) + "winds 1 1 2 3 ;").calls("ask(0)=2 feel(0,1,8)=true starts()=3 ask(0)=2 feel(0,2,6)=true starts()=2 ask(0)=-1");
        // Behind 1: 8 7 8 6; behind 2: 6 6 5 5; behind 3: 5 3 4 3: 2 alike each.
        told(plain("a", 1, 0) + "winds 1 2 1 3 ;").calls("ask(0)=1 feel(0,1,8)=true starts()=5 ask(0)=2");
        // None parts them: alike ones, one alone, none at all.
        told(plain("a", 1, 0) + "winds 4 4 4 ;").calls("starts()=7 ask(0)=-1");
        told(plain("a", 1, 0) + "winds 1 2 ; dries 3 ;").calls("starts()=3 ask(0)=-1");
        told(plain("a", 1, 0)).calls("starts()=1 ask(0)=-1");
        told(plain("a", 1, 0) + "winds 1 2 ;").calls("ask(0)=1 feel(0,0,0)=true starts()=0 ask(0)=-1");
        // 1 less an hour till it is wet by 1; then by a wind of 9 alone, which comes ahead of the 10th .. 12th hour's end for
        // three places more by each hour: 11 alike, 10, 9 and 8 behind 12; 7 behind a 13th.
        String late = "winds 0 0 0 0 0 0 0 0 0 0 0 9 ; dries 1 < mass or wind = 9 ; ";
        told(plain("a", 1, 0) + late).calls("ask(0)=12");
        // Of those whose places are 4 to 11 none is dry behind 12.
        told(plain("a", 1, 0) + late).calls("feel(0,12,1)=true starts()=4080 ask(0)=-1");
        told(plain("a", 1, 0) + late).calls("feel(0,12,0)=true starts()=15 ask(0)=10 feel(0,10,1)=true starts()=3 ask(0)=11");
        told(plain("a", 1, 0) + late).calls("feel(0,11,1)=true starts()=4081 ask(0)=12");
        sentence(24, "ASK; NONE: others, none parts them.");
        told(plain("a", 1, 0) + cloth("w", "wool", 1, 0, 0) + "winds 0 1 ; dries mass - 12 + wind ;")
                .calls("ask(0)=-1 ask(1)=1 ask(2)=-1 ask(-1)=-1 ask(" + MIN + ")=-1 ask(" + MAX + ")=-1");
        busy().refused("ask(3)=-1 ask(-1)=-1 ask(6)=-1");
    }

    // ---- Promise 25 ----

    private static void changeMost() {
        sentence(25, "CHANGE: the PEG in place of which one of grip 9 (held alike) makes the worth of LAWS the most behind so many (1 to 20) HOURS,"
                + " if nothing else is done, if that is more than without; of equal ones the first.");
        // 9 in the 8th hour and in the 20th: 10 holds once, worn to 8; 9 and 5, worn to 12, hold twice.
        String late = plain("a", 1, 4) + "pegs 5 5 5 ; pulls wind ; winds 0 0 0 0 0 0 0 9 0 0 0 0 ;";
        told(late).calls("hang(0,3)=19").refused("change(0)=-1 change(1)=-1 change(8)=-1 change(19)=-1 change(20)=0 change(21)=-1");
        told(late).calls("hang(0,6)=19 change(20)=1 hour()=0 change(18)=-1 change(19)=1");
        String two = plain("a", 1, 4) + plain("b", 1, 7) + "pegs 2 2 2 2 2 ; pulls 5 ; ";
        told(two).calls("change(1)=-1 hang(0,3)=19 change(1)=0 hang(1,12)=18 change(1)=2 change(20)=2 take(1)=true change(1)=0");
        told(plain("a", 1, 7) + plain("b", 1, 7) + "pegs 2 2 2 2 2 ; pulls 5 ; ").calls("hang(1,3)=19 hang(0,12)=18 change(1)=0");
        // Not more than without: it holds anyway, it falls anyway, it is worth nothing, it is no LAW.
        told(plain("a", 1, 4) + "pegs 9 9 ; pulls 5 ;").calls("hang(0,3)=19 change(1)=-1 change(20)=-1");
        told(plain("a", 1, 4) + "pegs 2 2 ; pulls 12 ;").calls("hang(0,3)=19 change(1)=-1");
        told(plain("a", 1, 4) + "pegs 2 2 ; pulls 11 ;").calls("hang(0,3)=19 change(1)=0 change(2)=-1");
        told(plain("a", 1, 0) + "pegs 2 2 ; pulls 5 ;").calls("hang(0,3)=19 change(1)=-1");
        told(plain("a", 1, 4) + "pegs 2 2 ; pulls 5 ;").calls("hang(0,1)=19 change(1)=-1");
        told(plain("a", 1, 4) + EIGHT_PEGS.replace("9 9 9 9 9 9 9 9", "9 9 9 9 9 9 2 2") + "pulls 5 + ( wind = 9 ) * 90 ; winds 9 9 9 3 ;")
                .times(3, "hang(0,3)=19 hour()=1").calls("cloth(0,2)=3 hang(0,192)=19 change(1)=-1 take(0)=true wash(0)=3 hang(0,192)=19 change(1)=6");
        // The stronger of the two is the one to be kept: 9 and 3 hold 12, 9 and 2 do not.
        told(plain("a", 1, 4) + "pegs 3 2 ; pulls 12 ;").calls("hang(0,3)=19 change(1)=1");
        told(plain("a", 1, 4) + "pegs 3 2 ; pulls 11 ;").calls("hang(0,3)=19 change(1)=0");
        // By the winds from now on, without gusts: 5 in the third hour alone.
        told(plain("a", 1, 4) + "pegs 2 2 ; pulls 5 * ( wind = 3 ) ; winds 2 4 3 ; gusts 10 ;").calls("hang(0,3)=19 change(2)=-1 change(3)=0 hour()=0 change(1)=-1 change(2)=0");
        // A PEG that would be worn out: 8 wears 15, not 16.
        told(plain("a", 1, 4) + "pegs 1 6 ; pulls 7 ;").calls("hang(0,3)=19 laws()=1 change(1)=0 change(20)=0");
        sentence(25, "CHANGE; NONE: others, none.");
        made().calls("change(1)=-1 change(20)=-1");
        busy().refused("change(0)=-1 change(-1)=-1 change(21)=-1 change(" + MIN + ")=-1 change(" + MAX + ")=-1");
    }

    // ---- Promise 26 ----

    private static void restsAll() {
        sentence(26, "RESTS: by which the guard would not lose less elsewhere, the thief not get more.");
        // The thief must get nothing anywhere: what the guard does not sit by is worth 0. So he rests by the one line of
        // worth, the thief anywhere; without worth both anywhere; by two lines of worth never.
        for (int worths = 0; worths < 1000; worths++) {
            int[] worth = {worths / 100, worths / 10 % 10, worths % 10};
            String call = "rests(" + worth[0] + "," + worth[1] + "," + worth[2] + ",";
            int lines = (worth[0] > 0 ? 1 : 0) + (worth[1] > 0 ? 1 : 0) + (worth[2] > 0 ? 1 : 0);
            int many = lines == 0 ? 9 : lines == 1 ? 3 : 0;
            int first = lines != 1 || worth[0] > 0 ? 0 : worth[1] > 0 ? 3 : 6;
            Run run = made().calls(call + "-1)=" + many);
            for (int i = 0; i < many; i++) {
                run.calls(call + i + ")=" + (first + i));
            }
            run.calls(call + many + ")=NoSuchElementException");
        }
        sentence(26, "what NONE: how many; i: the i-th as 3 * the guard's line + the thief's (from 0; the least first)");
        made().calls("rests(0,0,0,-1)=9 rests(0,0,0,0)=0 rests(0,0,0,8)=8 rests(0,0,0,9)=NoSuchElementException rests(0,4,0,-1)=3")
                .calls("rests(0,4,0,0)=3 rests(0,4,0,1)=4 rests(0,4,0,2)=5 rests(0,4,0,3)=NoSuchElementException");
        sentence(26, "he sits by one of three lines of worth so much (0 to 9 each)");
        made().calls("rests(9,0,0,-1)=3 rests(0,9,0,-1)=3 rests(0,0,9,-1)=3 rests(9,9,9,-1)=0 rests(1,0,0,2)=2");
        sentence(26, "NoSuchElementException: others, none such.");
        for (String worth : new String[] {"-1", "10", MIN, MAX}) {
            for (String what : new String[] {"-1", "0", "9"}) {
                made().refused("rests(" + worth + ",0,0," + what + ")=NoSuchElementException rests(0," + worth + ",0," + what
                        + ")=NoSuchElementException rests(0,0," + worth + "," + what + ")=NoSuchElementException");
            }
        }
        busy().refused("rests(0,0,0,-2)=NoSuchElementException rests(0,0,0," + MIN + ")=NoSuchElementException rests(0,0,0," + MAX
                + ")=NoSuchElementException rests(0,0,0,9)=NoSuchElementException rests(0,0,0,8)=8 rests(0,9,0,3)=NoSuchElementException"
                + " rests(0,9,0,2)=5 rests(1,9,0,0)=NoSuchElementException rests(1,9,0,-1)=0");
    }

    // ---- Promise 27 ----

    private static void decadesBy(String line, int seed, int hours, int laws, int falls, int grips) {
        String call = "decades(" + seed + "," + hours + ",";
        told(plain("a", 1, 4) + "pegs 9 9 9 ; " + line).calls(call + "0)=" + laws + " " + call + "1)=" + falls + " " + call + "2)=" + grips);
    }

    private static void decadesEdges() {
        sentence(27, "DECADES by a SEED of so many hours (1 to 60), from now on (all is as ahead then)");
        // Worked out apart. It is hung in the first hour, later taken in by each DRAW of 4 that is 0, then hung again.
        decadesBy("pulls 0 ;", 0, 1, 1, 0, 27);
        decadesBy("pulls 0 ;", 0, 5, 5, 0, 27);
        decadesBy("pulls 0 ;", 1, 5, 4, 0, 27);
        decadesBy("pulls 0 ;", 0, 59, 48, 0, 27);
        decadesBy("pulls 0 ;", 0, 60, 48, 0, 27);
        decadesBy("pulls 0 ;", 9998, 59, 50, 0, 27);
        decadesBy("pulls 0 ;", 9998, 60, 51, 0, 27);
        decadesBy("pulls 0 ;", 9999, 59, 49, 0, 27);
        decadesBy("pulls 0 ;", 9999, 60, 50, 0, 27);
        sentence(27, "then a DRAW below 10: below gusts the hour is gusty; the HOUR: LAWS behind each, together; FALLS; grips of all at last");
        // The first DRAW below 10 by the SEED 0 is 8.
        decadesBy(FALL_BY_GUSTS + "gusts 8 ;", 0, 1, 1, 0, 27);
        decadesBy(FALL_BY_GUSTS + "gusts 9 ;", 0, 1, 0, 1, 25);
        decadesBy(FALL_BY_GUSTS + "gusts 5 ;", 0, 5, 2, 3, 21);
        decadesBy(FALL_BY_GUSTS + "gusts 5 ;", 1, 5, 1, 3, 21);
        decadesBy(FALL_BY_GUSTS + "gusts 5 ;", 9998, 5, 3, 2, 23);
        decadesBy(FALL_BY_GUSTS + "gusts 5 ;", 9999, 60, 7, 9, 9);
        decadesBy(FALL_BY_GUSTS + "gusts 0 ;", 9999, 60, 50, 0, 27);
        // By gusts in each hour: 9 falls, then there are no 2 PEGS that are not split.
        decadesBy(FALL_BY_GUSTS + "gusts 10 ;", 9999, 9, 0, 9, 9);
        decadesBy(FALL_BY_GUSTS + "gusts 10 ;", 9999, 60, 0, 9, 9);
        // In other hours the wind is as told, and so is what dries.
        decadesBy("pulls 99 * not ( wind = 3 ) ; gusts 0 ;", 9999, 60, 50, 0, 27);
        decadesBy("pulls 99 * not ( wind = 6 ) ; gusts 10 ;", 9999, 60, 50, 0, 27);
        decadesBy("pulls 99 * not ( wind = 3 or wind = 6 ) ; gusts 5 ;", 9999, 60, 50, 0, 27);
        // By the SEED 1 it is not taken in for 4 hours; the DRAWS below 10 are 3 7 2 7. It falls when two gusts have dried it to 7.
        String dried = plain("a", 1, 4) + "pegs 9 9 9 ; pulls 99 * ( mass = 7 ) ; dries wind = 6 ; gusts ";
        told(dried + "4 ;").calls("wash(0)=0 hang(0,3)=19 decades(1,3,1)=0 decades(1,4,1)=1 decades(1,4,0)=3 decades(1,4,2)=25");
        told(dried + "3 ;").calls("wash(0)=0 hang(0,3)=19 decades(1,4,1)=0 decades(1,4,0)=4");
        told(dried + "7 ;").calls("wash(0)=0 hang(0,3)=19 decades(1,3,1)=0 decades(1,4,1)=1");
        told(dried + "8 ;").calls("wash(0)=0 hang(0,3)=19 decades(1,2,1)=0 decades(1,3,1)=1");
        sentence(27, "one that is in is HUNG by the first 2 (a sheet 4) free PEGS that are not split, if that can be (no DRAW more)");
        told(cloth("s", "sheet", 1, 0, 4) + "pegs 9 9 9 ; pulls 0 ;").calls("decades(5,60,0)=0 decades(5,60,2)=27");
        told(cloth("s", "sheet", 1, 0, 4) + "pegs 9 9 9 9 ; pulls 0 ;").calls("decades(0,60,0)=48 decades(0,1,0)=1");
        told(plain("a", 1, 4) + "pegs 9 ; pulls 0 ;").calls("decades(5,60,0)=0");
        // Too few hold none at all, so none falls either.
        told(plain("a", 1, 4) + "pegs 9 ; pulls 99 ;").calls("decades(5,60,1)=0 decades(5,60,2)=9");
        told(cloth("s", "sheet", 1, 0, 4) + "pegs 9 9 9 ; pulls 99 ;").calls("decades(5,60,1)=0 decades(5,60,2)=27");
        // The first two, 1 and 1, are split by the first fall, the next two by the second one; the last one is alone.
        told(plain("a", 1, 4) + "pegs 1 1 1 1 9 ; pulls 99 ;").calls("decades(5,1,2)=11 decades(5,2,1)=2 decades(5,2,2)=9 decades(5,60,1)=2 decades(5,60,2)=9");
        // PEG 0 is split, PEG 2 is held: it is hung by 1 and 3.
        told(plain("a", 1, 4) + plain("b", 1, 4) + "pegs 1 9 9 9 ; pulls 99 * ( size = 1 ) * ( wind = 9 ) ; winds 9 0 ;")
                .calls("hang(0,1)=19 hour()=1 peg(0,0)=0 hang(0,4)=19 decades(4,1,0)=1 decades(4,1,1)=0");
        told(plain("a", 4, 4) + "pegs 9 9 ; pulls 0 ; yards 3 ;").calls("decades(5,60,0)=0");
        told(plain("a", 4, 4) + "pegs 9 9 ; pulls 0 ; yards 4 ;").calls("decades(0,60,0)=48");
        sentence(27, "if there are CLOTHS, a DRAW below them");
        told("pegs 9 8 7 ; gusts 10 ;").calls("decades(5,60,0)=0 decades(5,60,1)=0 decades(5,60,2)=24");
        made().calls("decades(0,1,0)=0 decades(0,1,1)=0 decades(0,1,2)=0");
        // From now on: it hangs, so there is a DRAW below 4 at once, by the SEED 0 of 21468: 0, it comes in.
        told(plain("a", 1, 4) + "pegs 9 9 9 ; pulls 0 ;").calls("hang(0,6)=19").refused("decades(0,1,0)=0 decades(1,1,0)=1");
        sentence(27, "DECADES by a SEED (0 to 9999), what 0: LAWS, 1: FALLS, 2: grips; NONE: others.");
        busy().refused("decades(-1,1,0)=-1 decades(10000,1,0)=-1 decades(" + MIN + ",1,0)=-1 decades(" + MAX + ",1,0)=-1 decades(0,0,0)=-1"
                + " decades(0,-1,0)=-1 decades(0,61,0)=-1 decades(0," + MIN + ",0)=-1 decades(0," + MAX + ",0)=-1 decades(0,1,-1)=-1"
                + " decades(0,1,3)=-1 decades(0,1," + MIN + ")=-1 decades(0,1," + MAX + ")=-1 decades(10000,61,3)=-1");
    }

    private static void draws() {
        sentence(27, "A DRAW below m: g becomes (g * 1103515245 + 12345) modulo 2147483648 (g is the SEED at first); it is g / 65536, cut, modulo m.");
        // Five sheets, for which there are too few PEGS, and a plain one: it hangs if the first DRAW below 6 is its number.
        for (int plain = 0; plain < 6; plain++) {
            StringBuilder line = new StringBuilder("pegs 9 9 ; pulls 0 ; ");
            for (int i = 0; i < 6; i++) {
                line.append(cloth("abcdef".substring(i, i + 1), i == plain ? "plain" : "sheet", 1, 0, 0));
            }
            Run run = told(line.toString());
            for (long seed = 0; seed < 10000; seed += 101) {
                long drawn = (seed * 1103515245L + 12345L) % 2147483648L / 65536L % 6L;
                run.calls("decades(" + seed + ",1,0)=" + (drawn == plain ? 1 : 0));
            }
        }
        sentence(27, "one that hangs is TAKEN in if a DRAW below 4 is 0");
        Run hangs = told(plain("a", 1, 4) + "pegs 9 9 9 ; pulls 0 ;").calls("hang(0,6)=19");
        for (long seed = 0; seed < 10000; seed += 101) {
            long first = (seed * 1103515245L + 12345L) % 2147483648L;
            long second = (first * 1103515245L + 12345L) % 2147483648L;
            hangs.calls("decades(" + seed + ",1,0)=" + (second / 65536L % 4L == 0 ? 0 : 1));
        }
    }

    // ---- Promise 28 ----

    private static void marks() {
        sentence(28, "MARKS 0 to 3 hold the hour, CLOTHS, PEGS, what is FELT (nothing can be undone when one is gone back to).");
        Run run = told(plain("a", 1, 4) + plain("b", 1, 4) + "pegs 3 3 1 ; pulls 4 ; dries 1 ; winds 1 2 ;");
        run.calls("wash(0)=0 hang(0,3)=19 feel(0,0,9)=true mark(0,false)=true hour()=0 mark(3,false)=true count(11)=3")
                .calls("take(0)=true buy(4)=3 wash(0)=0 hang(1,12)=19 feel(1,1,3)=true starts()=0 hour()=0 count(4)=2 count(1)=4")
                .calls("mark(3,true)=true count(4)=1 count(5)=2 count(1)=3 count(10)=1 starts()=3 count(11)=0 undo()=false cloth(0,3)=3 cloth(0,1)=8 peg(0,0)=2")
                .calls("peg(3,0)=-2 cloth(1,3)=0 hour()=0 undo()=true count(4)=1 undo()=false")
                .calls("mark(0,true)=true count(4)=0 cloth(0,1)=9 peg(0,0)=3 peg(1,0)=3 count(10)=1 undo()=false")
                // A MARK stays when one has gone back to it, and is laid anew.
                .calls("hour()=0 mark(0,true)=true count(4)=0 hour()=0 hour()=0 mark(0,false)=true count(11)=2 mark(3,true)=true count(4)=1")
                .calls("mark(0,true)=true count(4)=2 count(11)=0 mark(1,true)=false mark(2,true)=false");
        told(plain("a", 1, 4)).times(8, "feel(0,0,8)=true").calls("mark(2,false)=true")
                .put(plain("a", 1, 4)).calls("line()=0 mark(2,true)=false mark(2,false)=true feel(0,0,9)=true mark(2,true)=true count(10)=0 starts()=1");
        // What is FELT: nothing on 0, on 1 that it was wet by 7 behind an hour, which it is by place 1 alone.
        told(plain("a", 1, 4) + cloth("w", "wool", 1, 0, 4) + "winds 1 2 1 3 ; dries wind + mass - 9 ;")
                .calls("mark(0,false)=true feel(0,1,7)=true starts()=2 mark(1,false)=true mark(0,true)=true starts()=15 feel(1,2,5)=true starts()=0")
                .calls("mark(2,false)=true mark(1,true)=true count(10)=1 starts()=2 mark(2,true)=true starts()=0 mark(1,true)=true feel(0,1,7)=true starts()=2");
        // A LINE takes all four away, one with a FAULT none.
        told(plain("a", 1, 4)).calls("mark(0,false)=true mark(1,false)=true mark(2,false)=true mark(3,false)=true").put("oh")
                .calls("line()=1 mark(0,true)=true mark(1,true)=true mark(2,true)=true mark(3,true)=true line()=0")
                .calls("mark(0,true)=false mark(1,true)=false mark(2,true)=false mark(3,true)=false");
        // The DAY and the TAPE are not on it.
        told(plain("a", 1, 4)).calls("mark(1,false)=true").put("hour ;").calls("day()=0").put("abc").calls("mark(1,true)=true count(9)=1 count(12)=3");
        sentence(28, "A MARK is laid (back: gone back to): true; false: none such, nothing is on it (back).");
        // 1 and 3 are laid there.
        busy().refused("mark(-1,false)=false mark(4,false)=false mark(-1,true)=false mark(4,true)=false mark(" + MIN + ",false)=false mark(" + MAX
                + ",true)=false mark(" + MIN + ",true)=false mark(" + MAX + ",false)=false mark(0,true)=false mark(2,true)=false");
        made().refused("mark(0,true)=false mark(1,true)=false mark(2,true)=false mark(3,true)=false");
        made().calls("mark(0,false)=true mark(0,true)=true mark(1,false)=true mark(2,false)=true mark(3,false)=true mark(3,true)=true count(11)=0");
        busy().calls("count(11)=7 mark(0,false)=true count(11)=7 undo()=true");
    }

    // ---- Promise 29 ----

    private static void counts() {
        sentence(29, "12: signs on the TAPE. NONE for another what.");
        busy().refused("count(-1)=-1 count(13)=-1 count(-2)=-1 count(" + MIN + ")=-1 count(" + MAX + ")=-1");
        // Hour 2: aa by grips worn to 4 and 3, bb by 30; cc is in and washed; 25 yards less 5 and 6.
        busy().calls("count(0)=3 count(1)=8 count(2)=25 count(3)=14 count(4)=2 count(5)=3 count(6)=40 count(7)=0 count(8)=2 count(9)=6 count(10)=2 count(11)=7 count(12)=0");
        sentence(29, "2: yards, 3: ROOM that is left");
        told(plain("a", 20, 0) + "pegs 9 9 ; yards 20 ;").calls("count(2)=20 count(3)=20 hang(0,3)=0 count(3)=0 count(2)=20 take(0)=true hang(0,1)=9 count(3)=9");
        sentence(29, "4: the hour, 5: its wind");
        made().calls("count(4)=0 count(5)=3 hour()=0 count(4)=1 count(5)=3");
        told("winds 9 0 ;").calls("count(4)=0 count(5)=9 hour()=0 count(4)=1 count(5)=0 hour()=0 count(4)=2 count(5)=9 undo()=true count(5)=0");
        sentence(29, "6: worth of LAWS, 7: TURNED ones as bits");
        told(plain("a", 1, 99) + plain("b", 1, 99) + plain("c", 1, 99) + plain("d", 1, 99) + EIGHT_PEGS)
                .calls("count(6)=0 hang(0,3)=19 hang(1,12)=18 hang(2,48)=17 hang(3,192)=16 count(6)=396 count(7)=0");
        told(plain("a", 1, 1) + plain("b", 1, 1) + plain("c", 1, 1) + plain("d", 1, 1) + plain("e", 1, 1) + plain("f", 1, 1) + EIGHT_PEGS)
                .calls("hang(5,128)=19 count(7)=32 hang(0,1)=18 count(7)=33 hang(1,6)=17 count(7)=33 hang(2,8)=16 hang(3,16)=15 hang(4,32)=14 count(7)=61 count(6)=1");
        sentence(29, "9: lines of the DAY, 10: FELT, 11: what can be undone");
        told(plain("a", 1, 1)).put("hour;".repeat(30)).calls("day()=0 count(9)=30").times(8, "feel(0,0,9)=true").calls("count(10)=8 feel(0,0,9)=false count(10)=8")
                .times(16, "hour()=0").calls("count(11)=16 hour()=0 count(11)=16 undo()=true count(11)=15");
    }

    private static void asking() {
        sentence(0, "Nothing is promised beyond the answers and state changes described above");
        // What only asks changes nothing.
        Run run = busy();
        run.stays(() -> {
            for (int i = 0; i < 3; i++) {
                for (String call : ("free() laws() clashes() mend(0) mend(1) starts() judged(0) judged(1) judged(2) holds(" + i + ") ask(" + i + ") fill(6," + i
                        + ") fill(1,-1) odds(" + i + ",8) dry(" + i + ") change(20) decades(77,60," + i + ") cloth(" + i + ",7) peg(" + i + ",1)").split(" ")) {
                    run.answer(call);
                }
            }
        });
    }

    public static void main(String[] args) {
        holdsForty();
        clashesBoth();
        mendLeast();
        fillHours();
        fillStains();
        fillWidths();
        fillGrips();
        fillRows();
        oddsCut();
        dryNone();
        dryAsIf();
        dryOrder();
        dryWithin();
        feelOthers();
        startsSo();
        askLeast();
        changeMost();
        restsAll();
        decadesEdges();
        draws();
        marks();
        counts();
        asking();
        finish();
    }
}
