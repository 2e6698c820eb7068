/** Edges of what is done by hand and by the hours: promises 5 to 15. */
public final class DoingEdgesTest extends Edges {
    /** A CLOTH falls in an hour of wind 9, and never else. */
    private static final String FALL_BY_9 = "pulls ( wind = 9 ) * 99 ; ";
    private static final String FOUR_KINDS = cloth("p", "plain", 7, 3, 5) + cloth("s", "sheet", 8, 2, 6)
            + cloth("f", "flag", 2, 1, 7) + cloth("w", "wool", 20, 4, 8);
    private static final String EIGHT_PEGS = "pegs 9 9 9 9 9 9 9 9 ; ";

    // ---- Promise 5 ----

    private static void clothOthers() {
        sentence(5, "7: by what it is pulled in this hour; NONE: others.");
        Run run = told(FOUR_KINDS + EIGHT_PEGS + "yards 60 ; winds 5 ;").calls("hang(0,3)=53 hang(1,60)=45");
        for (String cloth : new String[] {"-1", "4", "5", "6", MIN, MAX}) {
            for (int what = 0; what < 8; what++) {
                run.calls("cloth(" + cloth + "," + what + ")=-1");
            }
        }
        for (String what : new String[] {"-1", "8", "-2", MIN, MAX}) {
            run.calls("cloth(0," + what + ")=-1 cloth(3," + what + ")=-1 cloth(4," + what + ")=-1");
        }
        run.calls("cloth(3,0)=3 cloth(3,7)=21 cloth(0,0)=0 cloth(0,7)=9");
    }

    private static void clothKinds() {
        sentence(5, "what 0: KIND (0 plain, 1 sheet, 2 flag, 3 wool)");
        told(FOUR_KINDS).calls("cloth(0,0)=0 cloth(1,0)=1 cloth(2,0)=2 cloth(3,0)=3");
    }

    private static void clothWetAndStains() {
        sentence(5, "1: wet, 2: stains");
        Run run = told(cloth("p", "plain", 1, 0, 5) + EIGHT_PEGS + FALL_BY_9 + "winds 9 1 ; dries 4 ;");
        run.calls("cloth(0,1)=0 cloth(0,2)=0 hang(0,3)=19 hour()=1 cloth(0,1)=9 cloth(0,2)=1 hang(0,3)=19")
                .calls("hour()=0 cloth(0,1)=5 cloth(0,2)=1 take(0)=true cloth(0,1)=5 cloth(0,2)=1 wash(0)=1 cloth(0,1)=9 cloth(0,2)=0");
    }

    private static void clothPegs() {
        sentence(5, "3: PEGS as bits (0: it is in), 4: 1 LAW, 5: 1 TURNED, 6: its ROOM now (0: it is in)");
        told(FOUR_KINDS + EIGHT_PEGS + "yards 60 ;")
                .calls("cloth(0,3)=0 cloth(0,4)=0 cloth(0,5)=0 cloth(0,6)=0")
                .calls("hang(0,129)=53 cloth(0,3)=129 cloth(0,4)=1 cloth(0,5)=0 cloth(0,6)=7")
                .calls("hang(1,30)=45 cloth(1,3)=30 cloth(1,4)=1 cloth(1,5)=0 cloth(1,6)=8")
                .calls("hang(2,64)=43 cloth(2,3)=64 cloth(2,4)=0 cloth(2,5)=1 cloth(2,6)=2")
                .calls("take(0)=true cloth(0,3)=0 cloth(0,4)=0 cloth(0,5)=0 cloth(0,6)=0 take(1)=true cloth(1,3)=0 cloth(1,6)=0")
                .calls("hang(1,128)=53 cloth(1,4)=0 cloth(1,5)=1 cloth(1,6)=5 hang(3,3)=33 cloth(3,6)=20");
    }

    private static void pullRange() {
        sentence(5, "is pulled by the E of pulls (0 to 99; of a flag twice that)");
        String both = cloth("p", "plain", 1, 0, 0) + cloth("f", "flag", 1, 0, 0);
        told(both + "pulls 0 - 9999 ;").calls("cloth(0,7)=0 cloth(1,7)=0");
        told(both + "pulls 0 - 1 ;").calls("cloth(0,7)=0 cloth(1,7)=0");
        told(both + "pulls 0 ;").calls("cloth(0,7)=0 cloth(1,7)=0");
        told(both + "pulls 1 ;").calls("cloth(0,7)=1 cloth(1,7)=2");
        told(both + "pulls 49 ;").calls("cloth(0,7)=49 cloth(1,7)=98");
        told(both + "pulls 50 ;").calls("cloth(0,7)=50 cloth(1,7)=100");
        told(both + "pulls 98 ;").calls("cloth(0,7)=98 cloth(1,7)=196");
        told(both + "pulls 99 ;").calls("cloth(0,7)=99 cloth(1,7)=198");
        told(both + "pulls 100 ;").calls("cloth(0,7)=99 cloth(1,7)=198");
        told(both + "pulls 9999 * 9999 ;").calls("cloth(0,7)=99 cloth(1,7)=198");
        told(both + "pulls 4096 * 4096 * 128 ;").calls("cloth(0,7)=0 cloth(1,7)=0");
        told(both + "pulls 4096 * 4096 * 128 - 1 ;").calls("cloth(0,7)=99 cloth(1,7)=198");
    }

    // ---- Promises 6 to 8 ----

    private static void pegOthers() {
        sentence(6, "1: the CLOTH it holds (NONE: none); -2: others.");
        Run run = told(cloth("p", "plain", 1, 0, 0) + cloth("q", "plain", 1, 0, 0) + "pegs 4 5 6 ;");
        run.calls("peg(0,0)=4 peg(2,0)=6 peg(0,1)=-1 peg(2,1)=-1 peg(3,0)=-2 peg(3,1)=-2 peg(-1,0)=-2 peg(-1,1)=-2 peg(8,0)=-2")
                .calls("peg(" + MIN + ",0)=-2 peg(" + MAX + ",1)=-2 peg(0,-1)=-2 peg(0,2)=-2 peg(0," + MIN + ")=-2 peg(0," + MAX + ")=-2")
                .calls("hang(1,6)=19 peg(0,1)=-1 peg(1,1)=1 peg(2,1)=1 hang(0,1)=18 peg(0,1)=0 take(1)=true peg(1,1)=-1 buy(1)=3")
                .calls("peg(3,0)=1 peg(3,1)=-1 peg(4,0)=-2");
        Run eight = told(EIGHT_PEGS);
        eight.calls("peg(7,0)=9 peg(7,1)=-1 peg(8,0)=-2 peg(8,1)=-2");
        made().calls("peg(0,0)=-2 peg(0,1)=-2");
    }

    private static void freePegs() {
        sentence(7, "PEGS that are free and not split, as bits.");
        made().calls("free()=0");
        told(EIGHT_PEGS).calls("free()=255");
        told(cloth("p", "plain", 1, 0, 0) + "pegs 1 2 2 ; pulls 2 ;")
                .calls("free()=7 hang(0,1)=19 free()=6")
                // 2 is more than the grip 1: it falls, PEG 0 is split.
                .calls("hour()=1 free()=6 peg(0,0)=0 buy(1)=3 free()=14 hang(0,8)=19 free()=6 hour()=1 free()=6 hang(0,6)=19 free()=0 take(0)=true free()=6");
    }

    private static void lawByStains() {
        sentence(8, "It is LAW while it hangs by 2 (a sheet by 4) and has fewer than 3 stains");
        String fall = EIGHT_PEGS + FALL_BY_9 + "winds 9 ; ";
        told(cloth("p", "plain", 3, 0, 5) + fall).times(2, "hang(0,3)=17 laws()=1 hour()=1")
                .calls("cloth(0,2)=2 hang(0,3)=17 laws()=1 cloth(0,4)=1 count(6)=5 hour()=1 cloth(0,2)=3")
                .calls("hang(0,3)=17 laws()=0 cloth(0,4)=0 cloth(0,5)=0 cloth(0,6)=3 count(6)=0 take(0)=true wash(0)=3 hang(0,3)=17 laws()=1");
        told(cloth("s", "sheet", 3, 0, 5) + fall).times(2, "hang(0,15)=17 laws()=1 hour()=1")
                .calls("hang(0,15)=17 laws()=1 hour()=1 hang(0,240)=17 laws()=0 cloth(0,5)=0");
        told(cloth("p", "plain", 1, 0, 5) + cloth("s", "sheet", 1, 0, 5) + EIGHT_PEGS)
                .calls("hang(0,1)=19 hang(1,2)=18 laws()=0 take(0)=true take(1)=true hang(0,3)=19 hang(1,240)=18 laws()=3");
    }

    private static void sheetByFewer() {
        sentence(8, "it is TURNED while it hangs by 1");
        // Grips 15, 11, 8: by 8, 6, 6 worn each time; then 7 is more than 6.
        told(cloth("s", "sheet", 9, 0, 6) + "pegs 1 2 3 9 ; pulls 8 - wind ; winds 0 2 2 1 ;")
                .calls("hang(0,15)=11 laws()=1 hour()=0 cloth(0,3)=14 cloth(0,4)=0 cloth(0,5)=0 cloth(0,6)=9 laws()=0 count(7)=0")
                .calls("hour()=0 cloth(0,3)=12 cloth(0,4)=0 cloth(0,5)=0 cloth(0,6)=9 count(3)=11")
                .calls("hour()=0 cloth(0,3)=8 cloth(0,4)=0 cloth(0,5)=1 cloth(0,6)=5 count(3)=15 count(7)=1 hour()=1 cloth(0,5)=0 count(7)=0 count(3)=20");
        // With 3 stains too.
        told(cloth("p", "plain", 1, 0, 5) + EIGHT_PEGS + FALL_BY_9 + "winds 9 ;").times(3, "hang(0,3)=19 hour()=1")
                .calls("hang(0,1)=19 cloth(0,5)=1 count(7)=1");
    }

    private static void room() {
        sentence(9, "Its ROOM on the line is its width, of one TURNED half of that, cut, and 1 more.");
        int[][] widths = {{1, 1}, {2, 2}, {3, 2}, {4, 3}, {5, 3}, {19, 10}, {20, 11}};
        for (int[] wide : widths) {
            String one = "pegs 9 9 9 9 ; yards 60 ; ";
            told(cloth("p", "plain", wide[0], 0, 0) + one)
                    .calls("hang(0,3)=" + (60 - wide[0]) + " cloth(0,6)=" + wide[0] + " take(0)=true hang(0,1)=" + (60 - wide[1])
                            + " cloth(0,6)=" + wide[1] + " count(3)=" + (60 - wide[1]));
            told(cloth("s", "sheet", wide[0], 0, 0) + one)
                    .calls("hang(0,15)=" + (60 - wide[0]) + " take(0)=true hang(0,8)=" + (60 - wide[1]) + " cloth(0,6)=" + wide[1]);
        }
    }

    // ---- Promise 9 ----

    private static void hangBySo() {
        sentence(9, "2 (a sheet 4) or 1 of them");
        String both = cloth("p", "plain", 6, 0, 0) + cloth("s", "sheet", 6, 0, 0) + EIGHT_PEGS;
        for (int pegs = 0; pegs < 256; pegs++) {
            int many = Integer.bitCount(pegs);
            told(both).calls("hang(0," + pegs + ")=" + (many == 1 ? 16 : many == 2 ? 14 : -1) + " cloth(0,3)=" + (many == 1 || many == 2 ? pegs : 0));
            told(both).calls("hang(1," + pegs + ")=" + (many == 1 ? 16 : many == 4 ? 14 : -1) + " cloth(1,3)=" + (many == 1 || many == 4 ? pegs : 0));
        }
    }

    private static void hangOthers() {
        sentence(9, "ROOM that is left; NONE: others, it can't be.");
        // aa hangs by 0 and 1, bb by 2 to 5, cc is in; there are 8 PEGS.
        busy().calls("free()=192 cloth(2,3)=0")
                .refused("hang(-1,64)=-1 hang(3,64)=-1 hang(6,64)=-1 hang(" + MIN + ",64)=-1 hang(" + MAX + ",64)=-1"
                        + " hang(2,0)=-1 hang(2,256)=-1 hang(2,320)=-1 hang(2,-1)=-1 hang(2," + MIN + ")=-1 hang(2," + MAX + ")=-1"
                        + " hang(2,1073741824)=-1 hang(2,-2147483584)=-1 hang(0,64)=-1 hang(1,128)=-1 hang(0,3)=-1 hang(2,3)=-1 hang(2,65)=-1");
        busy().calls("hang(2,192)=12 cloth(2,3)=192");
        told(cloth("p", "plain", 6, 0, 0) + "pegs 9 9 ;").refused("hang(0,4)=-1 hang(0,5)=-1 hang(0,12)=-1").calls("count(1)=2");
    }

    private static void hangFree() {
        sentence(9, "HANG a CLOTH that is in by free PEGS that are not split");
        String two = cloth("p", "plain", 1, 0, 0) + cloth("q", "plain", 1, 0, 0);
        told(two + "pegs 9 9 9 9 ;").calls("hang(0,3)=19").refused("hang(0,12)=-1 hang(0,3)=-1 hang(0,4)=-1 hang(1,3)=-1 hang(1,2)=-1 hang(1,6)=-1");
        told(two + "pegs 9 9 9 9 ;").calls("hang(0,3)=19 hang(1,12)=18 take(0)=true hang(0,2)=18 take(1)=true hang(1,5)=18");
        // PEG 0 is split by the first hour; one of grip 1 is not.
        Run split = told(two + "pegs 1 1 2 ; pulls wind ; winds 2 0 ;").calls("hang(0,1)=19 hour()=1 peg(0,0)=0");
        split.calls("hang(0,3)=-1 hang(0,1)=-1 hang(1,5)=-1 hang(0,2)=19 hang(1,4)=18");
        told(two + "pegs 1 1 2 ; pulls wind ; winds 2 0 ;").calls("hang(0,1)=19 hour()=1").refused("hang(0,1)=-1 hang(0,3)=-1 hang(1,1)=-1 hang(1,5)=-1");
        sentence(9, "a PEG holds one CLOTH at most; one of grip 0 is split and holds none");
        told(two + "pegs 9 9 ;").calls("hang(0,1)=19 hang(1,1)=-1 hang(1,2)=18 peg(0,1)=0 peg(1,1)=1");
        // Worn to 0 and 2: PEG 0 lets go.
        told(two + "pegs 1 3 ; pulls 3 ;").calls("hang(0,3)=19 hour()=0 peg(0,0)=0 peg(0,1)=-1 peg(1,0)=2 peg(1,1)=0 cloth(0,3)=2 free()=0")
                .refused("hang(1,1)=-1");
    }

    private static void hangRoom() {
        sentence(9, "if there is ROOM (all ROOMS together no more than yards)");
        String pegs = "pegs 9 9 9 9 ; ";
        told(cloth("p", "plain", 6, 0, 0) + pegs + "yards 7 ;").calls("hang(0,3)=1");
        told(cloth("p", "plain", 6, 0, 0) + pegs + "yards 6 ;").calls("hang(0,3)=0 count(3)=0");
        told(cloth("p", "plain", 6, 0, 0) + pegs + "yards 5 ;").refused("hang(0,3)=-1");
        // TURNED it needs 4 alone.
        told(cloth("p", "plain", 6, 0, 0) + pegs + "yards 4 ;").calls("hang(0,3)=-1 hang(0,1)=0");
        told(cloth("p", "plain", 6, 0, 0) + pegs + "yards 3 ;").refused("hang(0,3)=-1 hang(0,1)=-1");
        String two = cloth("p", "plain", 6, 0, 0) + cloth("q", "plain", 4, 0, 0) + pegs;
        told(two + "yards 10 ;").calls("hang(0,3)=4 hang(1,12)=0");
        told(two + "yards 9 ;").calls("hang(0,3)=3 hang(1,12)=-1 hang(1,4)=0");
        told(two + "yards 8 ;").calls("hang(0,3)=2 hang(1,12)=-1 hang(1,4)=-1 take(0)=true hang(1,12)=4 hang(0,1)=0");
        // When the first one loses a PEG it is TURNED, and there is more ROOM.
        told(cloth("p", "plain", 6, 0, 0) + cloth("q", "plain", 2, 0, 0) + "pegs 1 9 9 9 ; yards 6 ; pulls size ; ")
                .calls("hang(0,3)=0 hang(1,12)=-1 hour()=0 cloth(0,3)=2 count(3)=2 hang(1,12)=0");
        told(cloth("p", "plain", 20, 0, 0) + cloth("q", "plain", 20, 0, 0) + cloth("r", "plain", 20, 0, 0)
                + cloth("t", "plain", 1, 0, 0) + EIGHT_PEGS + "yards 60 ;")
                .calls("hang(0,3)=40 hang(1,12)=20 hang(2,48)=0 hang(3,64)=-1 count(3)=0");
        // Without enough of it told: 20 yards.
        told(cloth("p", "plain", 20, 0, 0) + cloth("t", "plain", 1, 0, 0) + EIGHT_PEGS).calls("hang(0,3)=0 hang(1,12)=-1 hang(1,4)=-1");
    }

    // ---- Promises 10 to 12 ----

    private static void takeOthers() {
        sentence(10, "TAKE in one that hangs.");
        told(cloth("p", "plain", 4, 0, 0) + "pegs 4 4 ;").calls("take(0)=false hang(0,3)=16 take(0)=true take(0)=false hang(0,1)=17 take(0)=true");
        sentence(10, "TAKE: true; false: others, it is in.");
        busy().refused("take(2)=false take(-1)=false take(3)=false take(6)=false take(" + MIN + ")=false take(" + MAX + ")=false");
        busy().calls("take(0)=true take(0)=false take(1)=true take(1)=false laws()=0");
        // It is as wet as it was, and the grips are.
        told(cloth("p", "plain", 4, 0, 0) + "pegs 4 4 ; pulls 5 ; dries 2 ;")
                .calls("wash(0)=0 hang(0,3)=16 hour()=0 peg(0,0)=3 take(0)=true cloth(0,1)=7 cloth(0,2)=0 peg(0,0)=3 peg(1,0)=3 free()=3 count(3)=20");
        told(cloth("p", "plain", 4, 0, 0) + "pegs 4 ;").calls("hang(0,1)=17 take(0)=true");
    }

    private static void washOthers() {
        sentence(11, "WASH: stains it had; NONE: others, it hangs.");
        busy().refused("wash(0)=-1 wash(1)=-1 wash(-1)=-1 wash(3)=-1 wash(6)=-1 wash(" + MIN + ")=-1 wash(" + MAX + ")=-1");
        Run run = told(cloth("p", "plain", 1, 0, 5) + EIGHT_PEGS + FALL_BY_9 + "winds 9 ;");
        run.calls("wash(0)=0 cloth(0,1)=9 wash(0)=0 hang(0,3)=19 wash(0)=-1 hour()=1 wash(0)=1 cloth(0,2)=0 wash(0)=0");
        run.times(4, "hang(0,3)=19 hour()=1").times(4, "hang(0,12)=19 hour()=1").calls("wash(0)=8");
        run.times(5, "hang(0,48)=19 hour()=1").times(4, "hang(0,192)=19 hour()=1").calls("cloth(0,2)=9 wash(0)=9 cloth(0,2)=0 cloth(0,1)=9");
        // Partly dry it is soaked again.
        told(cloth("p", "plain", 1, 0, 5) + "pegs 9 ; pulls 0 ; dries 4 ;")
                .calls("wash(0)=0 hang(0,1)=19 hour()=0 cloth(0,1)=5 take(0)=true wash(0)=0 cloth(0,1)=9");
        sentence(11, "WASH one that is in: no stains, wet by 9.");
        told(cloth("p", "plain", 1, 0, 5)).calls("cloth(0,1)=0 wash(0)=0 cloth(0,1)=9 cloth(0,2)=0 cloth(0,3)=0");
    }

    private static void buyOthers() {
        sentence(12, "BUY (1 to 9): which PEG; NONE: others, 8 there are.");
        told("pegs 4 4 4 ;").refused("buy(0)=-1 buy(-1)=-1 buy(10)=-1 buy(" + MIN + ")=-1 buy(" + MAX + ")=-1");
        told("pegs 4 4 4 ;").calls("buy(1)=3 peg(3,0)=1 peg(3,1)=-1 buy(9)=4 peg(4,0)=9 count(1)=5 free()=31");
        made().calls("buy(1)=0 buy(2)=1 buy(3)=2 buy(4)=3 buy(5)=4 buy(6)=5 buy(7)=6 count(1)=7 buy(8)=7 count(1)=8 peg(7,0)=8")
                .refused("buy(1)=-1 buy(9)=-1 buy(0)=-1");
        sentence(12, "BUY a PEG of a grip, if there are fewer than 8: the next one.");
        told("pegs 1 1 1 1 1 1 1 ;").calls("buy(5)=7 buy(5)=-1 undo()=true count(1)=7 buy(6)=7 peg(7,0)=6 buy(1)=-1");
        told(EIGHT_PEGS).refused("buy(1)=-1 buy(9)=-1");
        // A split one is still there.
        told(cloth("p", "plain", 1, 0, 0) + "pegs 1 1 1 1 1 1 1 1 ; pulls 9 ;").calls("hang(0,3)=19 hour()=1 free()=252").refused("buy(9)=-1");
    }

    // ---- Promise 13 ----

    private static void hourWind() {
        sentence(13, "An HOUR: its wind is the told one whose place (from 0) is the hour's number, modulo how many are told.");
        Run run = told("winds 0 1 2 3 4 5 6 7 8 9 8 7 ;");
        int[] winds = {0, 1, 2, 3, 4, 5, 6, 7, 8, 9, 8, 7};
        for (int hour = 0; hour < 40; hour++) {
            run.calls("count(4)=" + hour + " count(5)=" + winds[hour % 12] + " hour()=0");
        }
        // Pulled in the 13th hour as in the first.
        run = told(cloth("p", "plain", 1, 0, 0) + "pegs 9 9 ; winds 9 0 0 0 0 0 0 0 0 0 0 0 ; " + FALL_BY_9).calls("hour()=0 hang(0,3)=19");
        run.times(11, "hour()=0").calls("count(4)=12 hour()=1");
        told(cloth("p", "plain", 1, 0, 0) + "pegs 9 9 ; pulls wind ; dries wind ; winds 7 ;")
                .calls("hour()=0 hour()=0 cloth(0,7)=7 wash(0)=0 hang(0,3)=19 hour()=0 cloth(0,1)=2");
        told(cloth("p", "plain", 1, 0, 0) + "pegs 9 9 ; pulls wind ; dries wind ;").calls("cloth(0,7)=3 wash(0)=0 hang(0,3)=19 hour()=0 cloth(0,1)=6");
    }

    private static void hourNeverGusty() {
        sentence(13, "its wind is the told one");
        // However many gusts are told, an hour by hand, or of a DAY, has none.
        Run run = told(cloth("p", "plain", 1, 0, 5) + "pegs 9 9 ; gusts 10 ; pulls ( wind = 6 ) * 99 ; dries ( wind = 6 ) * 9 ;");
        run.calls("wash(0)=0 hang(0,3)=19").times(20, "hour()=0").calls("cloth(0,1)=9 count(5)=3");
        run.put("hang p 0 1 ; hour ; hour ;").calls("day()=0 judged(1)=-1 judged(2)=5");
    }

    private static void falls(String kind, String pegs, int bits, String pulls, int falls) {
        told(cloth("x", kind, 1, 0, 0) + "pegs " + pegs + " ; pulls " + pulls + " ;")
                .calls("hang(0," + bits + ")=19 hour()=" + falls + " cloth(0,2)=" + falls);
    }

    private static void moreThanGrips() {
        sentence(13, "if that is more than the grips of its PEGS together, it FALLS");
        falls("plain", "5 4", 3, "8", 0);
        falls("plain", "5 4", 3, "9", 0);
        falls("plain", "5 4", 3, "10", 1);
        falls("wool", "5 4", 3, "9", 0);
        falls("wool", "5 4", 3, "10", 1);
        falls("plain", "5", 1, "5", 0);
        falls("plain", "5", 1, "6", 1);
        falls("plain", "9 5", 2, "5", 0);
        falls("plain", "9 5", 2, "6", 1);
        falls("sheet", "2 3 4 5", 15, "14", 0);
        falls("sheet", "2 3 4 5", 15, "15", 1);
        falls("sheet", "9 9 9 9", 15, "36", 0);
        falls("sheet", "9 9 9 9", 15, "37", 1);
        // Of a flag twice.
        falls("flag", "5 4", 3, "4", 0);
        falls("flag", "5 4", 3, "5", 1);
        falls("flag", "9 9", 3, "9", 0);
        falls("flag", "9 9", 3, "10", 1);
        // Below 0 is 0.
        falls("plain", "1", 1, "0 - 99", 0);
        falls("flag", "1", 1, "0", 0);
    }

    private static void fallen() {
        sentence(13, "it is in, wet by 9, has a stain more (9 at most); its PEGS are free, each has a grip less");
        told(cloth("p", "plain", 4, 0, 0) + "pegs 2 9 ; pulls 12 ;")
                .calls("hang(0,3)=16 hour()=1 cloth(0,3)=0 cloth(0,1)=9 cloth(0,2)=1 free()=3 peg(0,0)=1 peg(1,0)=8 peg(0,1)=-1 peg(1,1)=-1 count(3)=20");
        // A grip of 1 is split then.
        told(cloth("p", "plain", 4, 0, 0) + "pegs 1 9 ; pulls 11 ;").calls("hang(0,3)=16 hour()=1 free()=2 peg(0,0)=0 peg(1,0)=8 peg(0,1)=-1");
        // PEGS that do not hold it are as they were.
        told(cloth("p", "plain", 4, 0, 0) + "pegs 3 3 3 3 ; pulls 9 ;").calls("hang(0,6)=16 hour()=1 peg(0,0)=3 peg(1,0)=2 peg(2,0)=2 peg(3,0)=3");
        told(cloth("s", "sheet", 4, 0, 0) + "pegs 1 2 3 4 5 ; pulls 11 ;")
                .calls("hang(0,15)=16 hour()=1 peg(0,0)=0 peg(1,0)=1 peg(2,0)=2 peg(3,0)=3 peg(4,0)=5 free()=30");
        Run run = told(cloth("p", "plain", 4, 0, 0) + EIGHT_PEGS + FALL_BY_9 + "winds 9 ;");
        for (int fall = 1; fall <= 12; fall++) {
            run.calls("hang(0," + (fall % 2 == 0 ? 3 : 12) + ")=16 hour()=1 cloth(0,2)=" + Math.min(9, fall) + " cloth(0,1)=9");
        }
        // Each of them is counted.
        told(cloth("p", "plain", 1, 0, 0) + cloth("q", "plain", 2, 0, 0) + cloth("r", "plain", 3, 0, 0) + "pegs 1 1 1 1 1 1 ; pulls size ; winds 3 ;")
                .calls("hang(0,3)=19 hang(1,12)=17 hang(2,48)=14 hour()=2 cloth(0,3)=3 cloth(1,3)=0 cloth(2,3)=0 hour()=0");
        told(cloth("p", "plain", 1, 0, 0) + cloth("q", "plain", 2, 0, 0) + cloth("r", "plain", 3, 0, 0) + "pegs 1 1 1 1 1 1 ; pulls 9 ;")
                .calls("hour()=0 hang(0,3)=19 hang(1,12)=17 hang(2,48)=14 hour()=3 hour()=0");
    }

    private static void worn() {
        sentence(13, "Else if twice the pull is more than the grips, each of its PEGS has a grip less");
        String p = cloth("p", "plain", 1, 0, 0) + cloth("q", "plain", 1, 0, 0);
        told(p + "pegs 5 5 5 ; pulls 4 ;").calls("hang(0,3)=19 hour()=0 peg(0,0)=5 peg(1,0)=5");
        told(p + "pegs 5 5 5 ; pulls 5 ;").calls("hang(0,3)=19 hour()=0 peg(0,0)=5 peg(1,0)=5");
        told(p + "pegs 5 5 5 ; pulls 6 ;").calls("hang(0,3)=19 hour()=0 peg(0,0)=4 peg(1,0)=4 peg(2,0)=5 cloth(0,3)=3 cloth(0,2)=0");
        told(p + "pegs 5 4 5 ; pulls 4 ;").calls("hang(0,3)=19 hour()=0 peg(0,0)=5 peg(1,0)=4");
        told(p + "pegs 5 4 5 ; pulls 5 ;").calls("hang(0,3)=19 hour()=0 peg(0,0)=4 peg(1,0)=3 peg(2,0)=5");
        told(p + "pegs 4 ; pulls 2 ;").calls("hang(0,1)=19 hour()=0 peg(0,0)=4");
        told(p + "pegs 4 ; pulls 3 ;").calls("hang(0,1)=19 hour()=0 peg(0,0)=3");
        told(cloth("f", "flag", 1, 0, 0) + "pegs 4 4 ; pulls 2 ;").calls("hang(0,3)=19 hour()=0 peg(0,0)=4");
        told(cloth("f", "flag", 1, 0, 0) + "pegs 4 4 ; pulls 3 ;").calls("hang(0,3)=19 hour()=0 peg(0,0)=3 peg(1,0)=3");
        told(cloth("s", "sheet", 1, 0, 0) + "pegs 4 4 4 4 ; pulls 8 ;").calls("hang(0,15)=19 hour()=0 peg(3,0)=4");
        told(cloth("s", "sheet", 1, 0, 0) + "pegs 4 4 4 4 ; pulls 9 ;").calls("hang(0,15)=19 hour()=0 peg(0,0)=3 peg(3,0)=3");
        // Another CLOTH's PEGS are as they were.
        told(cloth("p", "plain", 1, 0, 0) + cloth("q", "plain", 6, 0, 0) + "pegs 5 5 5 5 ; pulls size ;")
                .calls("hang(0,5)=19 hang(1,10)=13 hour()=0 peg(0,0)=5 peg(1,0)=4 peg(2,0)=5 peg(3,0)=4");
    }

    private static void wornOut() {
        sentence(13, "one of grip 0 then holds no more; without PEGS the CLOTH FALLS as well, without a grip less");
        // 1 is no more than 1, but twice that is.
        told(cloth("p", "plain", 1, 0, 0) + "pegs 1 ; pulls 1 ;")
                .calls("hang(0,1)=19 hour()=1 peg(0,0)=0 peg(0,1)=-1 cloth(0,1)=9 cloth(0,2)=1 cloth(0,3)=0 free()=0");
        told(cloth("p", "plain", 1, 0, 0) + "pegs 1 1 ; pulls 1 ;").calls("hang(0,3)=19 hour()=0 peg(0,0)=1 peg(1,0)=1 cloth(0,3)=3");
        told(cloth("p", "plain", 1, 0, 0) + "pegs 1 1 ; pulls 2 ;").calls("hang(0,3)=19 hour()=1 peg(0,0)=0 peg(1,0)=0 cloth(0,2)=1 cloth(0,1)=9");
        told(cloth("p", "plain", 1, 0, 0) + "pegs 1 2 ; pulls 2 ;").calls("hang(0,3)=19 hour()=0 peg(0,0)=0 peg(1,0)=1 peg(0,1)=-1 peg(1,1)=0 cloth(0,3)=2 cloth(0,5)=1");
        told(cloth("p", "plain", 1, 0, 0) + "pegs 2 1 ; pulls 2 ;").calls("hang(0,3)=19 hour()=0 cloth(0,3)=1 cloth(0,2)=0 free()=0");
        told(cloth("p", "plain", 1, 0, 0) + "pegs 2 2 ; pulls 4 ;").calls("hang(0,3)=19 hour()=0 cloth(0,3)=3 peg(0,0)=1 hour()=1 peg(0,0)=0 peg(1,0)=0");
        String s = cloth("s", "sheet", 6, 0, 0);
        told(s + "pegs 1 1 1 1 ; pulls 4 ;").calls("hang(0,15)=14 hour()=1 peg(0,0)=0 peg(3,0)=0 cloth(0,2)=1 count(3)=20");
        told(s + "pegs 1 1 1 2 ; pulls 4 ;").calls("hang(0,15)=14 hour()=0 cloth(0,3)=8 cloth(0,5)=1 count(3)=16");
        told(s + "pegs 1 1 2 2 ; pulls 4 ;").calls("hang(0,15)=14 hour()=0 cloth(0,3)=12 cloth(0,4)=0 cloth(0,5)=0 count(3)=14");
        told(s + "pegs 1 2 2 2 ; pulls 4 ;").calls("hang(0,15)=14 hour()=0 cloth(0,3)=14 cloth(0,4)=0 cloth(0,5)=0 count(3)=14");
        told(s + "pegs 2 2 2 2 ; pulls 5 ;").calls("hang(0,15)=14 hour()=0 cloth(0,3)=15 cloth(0,4)=1");
    }

    private static void dryingHours() {
        sentence(13, "Then each CLOTH that hangs is less wet by the E of dries (0 to 9; 0 at least).");
        String p = cloth("p", "plain", 1, 0, 0) + "pegs 9 9 ; pulls 0 ; ";
        String[][] byOne = {{"0 - 9999", "9"}, {"0 - 1", "9"}, {"0", "9"}, {"1", "8"}, {"8", "1"}, {"9", "0"}, {"10", "0"}, {"9999", "0"},
            {"4096 * 4096 * 128", "9"}};
        for (String[] row : byOne) {
            told(p + "dries " + row[0] + " ;").calls("wash(0)=0 hang(0,3)=19 hour()=0 cloth(0,1)=" + row[1]);
        }
        told(p + "dries 4 ;").calls("wash(0)=0 hang(0,1)=19 hour()=0 cloth(0,1)=5 hour()=0 cloth(0,1)=1 hour()=0 cloth(0,1)=0 hour()=0 cloth(0,1)=0");
        // What is in stays wet, and what fell too.
        told(p + "dries 4 ;").calls("wash(0)=0 hour()=0 cloth(0,1)=9 hang(0,3)=19 take(0)=true hour()=0 cloth(0,1)=9");
        told(cloth("p", "plain", 1, 0, 0) + "pegs 9 9 ; pulls 99 ; dries 9 ;").calls("hang(0,3)=19 hour()=1 cloth(0,1)=9");
        told(cloth("p", "plain", 1, 0, 0) + "pegs 1 ; pulls 1 ; dries 9 ;").calls("hang(0,1)=19 hour()=1 cloth(0,1)=9");
        // By its own mass ahead of drying: wet by 9, then by 4 (9 - 5), then by 3 (4 - 1 of 3 < 4).
        told(cloth("p", "plain", 1, 0, 0) + "pegs 9 9 ; pulls 0 ; dries 4 * ( 8 < mass ) + ( 3 < mass ) ;")
                .calls("wash(0)=0 hang(0,3)=19 hour()=0 cloth(0,1)=4 hour()=0 cloth(0,1)=3 hour()=0 cloth(0,1)=3");
        // The pull is by the wetness ahead of it: 9, though it is 0 behind.
        told(cloth("p", "plain", 1, 0, 0) + "pegs 8 ; pulls mass ; dries 9 ;").calls("wash(0)=0 hang(0,1)=19 hour()=1");
        told(cloth("p", "plain", 1, 0, 0) + "pegs 9 9 ; pulls mass ; dries 9 ;").calls("wash(0)=0 hang(0,3)=19 hour()=0 cloth(0,7)=0 hour()=0");
        sentence(13, "HOUR: how many FELL.");
        made().calls("hour()=0 hour()=0");
        told(cloth("a", "plain", 1, 0, 0) + cloth("b", "plain", 1, 0, 0) + cloth("c", "plain", 1, 0, 0) + cloth("d", "plain", 1, 0, 0)
                + cloth("e", "plain", 1, 0, 0) + cloth("f", "plain", 1, 0, 0) + "pegs 1 1 1 1 1 1 ; pulls 1 ;")
                .calls("hang(0,1)=19 hang(1,2)=18 hang(2,4)=17 hang(3,8)=16 hang(4,16)=15 hang(5,32)=14 hour()=6 hour()=0 free()=0");
        sentence(13, "Then it is the next hour.");
        made().calls("count(4)=0 hour()=0 count(4)=1 hour()=0 count(4)=2");
    }

    // ---- Promise 14 ----

    private static void undoSixteen() {
        sentence(14, "UNDO: all of these, the last 16, one by one.");
        made().times(15, "hour()=0").calls("count(11)=15").times(15, "undo()=true").calls("count(4)=0 count(11)=0 undo()=false");
        made().times(16, "hour()=0").calls("count(11)=16").times(16, "undo()=true").calls("count(4)=0 count(11)=0 undo()=false count(4)=0");
        made().times(17, "hour()=0").calls("count(11)=16").times(16, "undo()=true").calls("count(4)=1 count(11)=0 undo()=false count(4)=1");
        made().times(100, "hour()=0").calls("count(11)=16").times(16, "undo()=true").calls("undo()=false count(4)=84");
        // 20 hours, 5 undone, 3 more: 14 are left of the 11 and the 3.
        made().times(20, "hour()=0").times(5, "undo()=true").times(3, "hour()=0").calls("count(11)=14 count(4)=18")
                .times(14, "undo()=true").calls("undo()=false count(4)=4");
        for (int i = 0; i < 40; i++) {
            made().times(i, "hour()=0").calls("buy(5)=0 hour()=0 undo()=true undo()=true count(1)=0 count(4)=" + i + " count(11)=" + Math.min(14, i));
        }
    }

    private static void undoEach() {
        sentence(14, "UNDO: true; false: nothing can be.");
        made().refused("undo()=false undo()=false");
        Run run = told(cloth("p", "plain", 6, 3, 5) + "pegs 1 1 ; pulls 3 ; dries 2 ;");
        run.calls("hang(0,3)=14 hour()=1 cloth(0,2)=1 wash(0)=1 buy(5)=2 hang(0,4)=16 hour()=0 take(0)=true count(11)=7")
                .calls("undo()=true cloth(0,3)=4 cloth(0,1)=7 count(3)=16")
                .calls("undo()=true cloth(0,1)=9 peg(2,0)=5 count(4)=1 undo()=true cloth(0,3)=0 free()=4")
                .calls("undo()=true count(1)=2 peg(2,0)=-2 free()=0 undo()=true cloth(0,2)=1 cloth(0,1)=9")
                .calls("undo()=true count(4)=0 cloth(0,3)=3 cloth(0,1)=0 cloth(0,2)=0 peg(0,0)=1 peg(1,0)=1 laws()=1 free()=0")
                .calls("undo()=true cloth(0,3)=0 free()=3 count(11)=0 undo()=false");
        // What could not be is nothing to undo.
        told(cloth("p", "plain", 6, 3, 5) + "pegs 1 1 ;").calls("hang(0,7)=-1 take(0)=false wash(1)=-1 buy(0)=-1 count(11)=0 undo()=false")
                .calls("hang(0,3)=14 hang(0,3)=-1 wash(0)=-1 buy(10)=-1 take(1)=false count(11)=1 undo()=true undo()=false cloth(0,3)=0");
        // Nor does it take the place of the first of 16, one by one.
        for (String not : "hang(0,7)=-1 take(1)=false wash(9)=-1 buy(0)=-1".split(" ")) {
            told(cloth("p", "plain", 6, 3, 5) + "pegs 9 9 ; pulls 0 ;").calls("wash(0)=0 hang(0,3)=14").times(14, "hour()=0").calls("count(11)=16").refused(not);
            told(cloth("p", "plain", 6, 3, 5) + "pegs 9 9 ; pulls 0 ;").times(40, "hour()=0").refused(not + " " + not + " " + not);
        }
        // Nor are FELT, MARKS that are laid, a DAY, a LINE with a FAULT.
        told(cloth("p", "plain", 6, 3, 5)).calls("feel(0,0,9)=true mark(0,false)=true count(11)=0 undo()=false count(10)=1 hour()=0")
                .put("oh").calls("line()=1").put("hour ;").calls("day()=0 count(11)=1 mark(1,false)=true undo()=true count(9)=1 count(4)=0 undo()=false");
        busy().calls("count(11)=7 mark(3,true)=true count(11)=0 undo()=false");
        busy().put("yards 5 ;").calls("line()=0 count(11)=0 undo()=false");
    }

    // ---- Promise 15 ----

    private static final String JUDGED = cloth("p", "plain", 6, 3, 5) + cloth("q", "plain", 6, 3, 40) + cloth("s", "sheet", 6, 3, 20)
            + "pegs 1 1 9 9 ; pulls 3 ; ";

    private static void judge(String day, int refused, int fall, int worth) {
        told(JUDGED).put(day).calls("day()=0 judged(0)=" + refused + " judged(1)=" + fall + " judged(2)=" + worth);
    }

    private static void firstRefused() {
        sentence(15, "the first line (from 0) that can't be (hour always can; lines that can't be are left out)");
        judge("", -1, -1, 0);
        judge("hour;".repeat(30), -1, -1, 0);
        judge("take p ;", 0, -1, 0);
        judge("hour ; take p ; take p ;", 1, -1, 0);
        judge("hour;".repeat(29) + "take p;", 29, -1, 0);
        judge("hang p 2 3 ; wash p ;", 1, -1, 5);
        judge("wash p ; wash p ;", -1, -1, 0);
        judge("hang p 2 3 ; hang p 0 1 ;", 1, -1, 5);
        judge("hang p 2 3 ; hang q 3 0 ;", 1, -1, 5);
        judge("hang p 2 3 4 ;", 0, -1, 0);
        judge("hang p 2 4 ;", 0, -1, 0);
        judge("hang p 7 ;", 0, -1, 0);
        judge("hang p 0 1 2 ;", 0, -1, 0);
        judge("hang p 0 1 2 3 ;", 0, -1, 0);
        judge("hang s 0 1 ;", 0, -1, 0);
        judge("hang s 0 1 2 ;", 0, -1, 0);
        judge("hang s 0 1 2 3 ;", -1, -1, 20);
        judge("hang s 3 ;", -1, -1, 0);
        judge("buy 1 ; buy 1 ; buy 1 ; buy 1 ; hang p 7 2 ;", -1, -1, 5);
        judge("buy 1 ; buy 1 ; buy 1 ; buy 1 ; buy 1 ;", 4, -1, 0);
        judge("buy 9 ; hang p 4 3 ; hang q 5 2 ;", 2, -1, 5);
        // p falls from PEGS of 1 and 1, which are split then.
        judge("hang p 0 1 ; hour ; hang p 0 ; hang p 2 3 ;", 2, 1, 5);
        // Three of 6: 18 yards are enough, 17 are not; TURNED the third one needs 4.
        String three = "buy 9;buy 9;buy 9;buy 9;hang p 0 1;hang q 2 3;hang s 4 5 6 7;";
        told(JUDGED + "yards 18 ;").put(three).calls("day()=0 judged(0)=-1 judged(2)=65");
        told(JUDGED + "yards 17 ;").put(three + "hang s 4;").calls("day()=0 judged(0)=6 judged(2)=45");
        told(JUDGED + "yards 16 ;").put(three.replace("5 6 7", "")).calls("day()=0 judged(0)=-1 judged(2)=45");
    }

    private static void firstFall() {
        sentence(15, "the first hour's line by which one FALLS");
        judge("hang p 2 3 ; hour ; hour ;", -1, -1, 5);
        judge("hang p 0 1 ; hour ;", -1, 1, 0);
        judge("hour ; hour ; hang p 0 1 ; buy 1 ; hour ; hang p 2 3 ; hour ;", -1, 4, 5);
        judge("hang p 0 1 ; hour ; hang q 2 3 ; hour ;", -1, 1, 40);
        judge("hour;".repeat(28) + "hang p 0;hour;", -1, 29, 0);
        // Worn from 4 to 2 by the first hour, then 3 is more.
        told(cloth("p", "plain", 6, 3, 5) + "pegs 2 2 ; pulls 3 ;").put("hang p 0 1 ; hour ; take p ; hang p 1 0 ; hour ; hour ;")
                .calls("day()=0 judged(0)=-1 judged(1)=4 judged(2)=0");
    }

    private static void worthAtLast() {
        sentence(15, "worth of all LAWS at last");
        judge("hang p 2 3 ; hang q 0 1 ;", -1, -1, 45);
        judge("hang p 2 3 ; hang q 0 1 ; hour ;", -1, 2, 5);
        judge("hang p 2 3 ; hang q 0 ;", -1, -1, 5);
        judge("hang p 2 3 ; take p ;", -1, -1, 0);
        sentence(15, "JUDGED: the DAY from the begin");
        // What was done by hand, the hours too, has no part in it.
        told(cloth("p", "plain", 6, 3, 5) + "pegs 9 9 ; " + FALL_BY_9 + "winds 9 0 ;")
                .calls("hang(0,3)=14 hour()=1 buy(4)=2 hang(0,6)=14 hour()=0 hour()=1 hour()=0 hour()=0 cloth(0,2)=2")
                .put("hang p 0 1 ; hour ; hang p 1 2 ;").calls("day()=0")
                .refused("judged(0)=2 judged(1)=1 judged(2)=0");
        sentence(15, "what 0: the first line that can't be, 1: that hour's line (NONE: none), 2: worth; -2: others.");
        busy().refused("judged(-1)=-2 judged(3)=-2 judged(-2)=-2 judged(" + MIN + ")=-2 judged(" + MAX + ")=-2 judged(0)=3 judged(1)=4 judged(2)=0");
    }

    public static void main(String[] args) {
        clothOthers();
        clothKinds();
        clothWetAndStains();
        clothPegs();
        pullRange();
        pegOthers();
        freePegs();
        lawByStains();
        sheetByFewer();
        room();
        hangBySo();
        hangOthers();
        hangFree();
        hangRoom();
        takeOthers();
        washOthers();
        buyOthers();
        hourWind();
        hourNeverGusty();
        moreThanGrips();
        fallen();
        worn();
        wornOut();
        dryingHours();
        undoSixteen();
        undoEach();
        firstRefused();
        firstFall();
        worthAtLast();
        finish();
    }
}
