import java.util.Arrays;
import java.util.NoSuchElementException;

/** Laws hung out by clothes pegs on one line; README.md tells how it is used. */
public final class PegLaws {
    public static final int NONE = -1;

    private static final int OTHERS = -2;
    private static final int MOST_SIGNS = 1000;
    private static final int MOST_CLOTHS = 6;
    private static final int MOST_PEGS = 8;
    private static final int MOST_WINDS = 12;
    private static final int MOST_DAY_LINES = 30;
    private static final int MOST_FELT = 8;
    private static final int MOST_UNDONE = 16;
    private static final int MARKS = 4;
    private static final int SHEET_KIND = 1;
    private static final int FLAG_KIND = 2;
    private static final int WOOL_KIND = 3;
    private static final int SOAKED = 9;
    private static final int WETNESSES = 10;
    private static final int MOST_GRIP = 9;
    private static final int MOST_STAINS = 9;
    private static final int LAWLESS_STAINS = 3;
    private static final int GUST = 3;
    private static final int GUST_ODDS = 10;
    private static final int FELT_HOURS = 12;

    // The words of the language by their numbers: the order of Reader.WORDS.
    private static final int CLOTH = 0;
    private static final int WIDE = 1;
    private static final int WEIGHT = 2;
    private static final int WORTH = 3;
    private static final int PEGS = 4;
    private static final int WINDS = 5;
    private static final int YARDS = 6;
    private static final int GUSTS = 7;
    private static final int CLASH = 8;
    private static final int PULLS = 9;
    private static final int DRIES = 10;
    private static final int HANG = 11;
    private static final int TAKE = 12;
    private static final int WASH = 13;
    private static final int BUY = 14;
    private static final int HOUR = 15;
    private static final int PLAIN = 16;
    private static final int WOOL = 19;
    private static final int NOT = 20;
    private static final int AND = 21;
    private static final int OR = 22;
    // The facts: mass and size stand behind wind, and nothing behind them.
    private static final int WIND = 23;

    private final Reader reader = new Reader();
    private final State now = new State();
    private final State trial = new State();
    private final Felt felt = new Felt();
    private final Past past = new Past();
    private final Filler filler = new Filler();
    private final Chances chances = new Chances();
    private final Laundry laundry = new Laundry();
    // A reading goes into the spare one, so that a FAULT leaves all as it was.
    private Line told = new Line();
    private Line spareLine = new Line();
    private Day plan = new Day();
    private Day spareDay = new Day();
    private long drawn;

    public PegLaws() {
        drawn = 0;
    }

    public int feed(long a, long b, long c) {
        reader.addSigns(a);
        reader.addSigns(b);
        reader.addSigns(c);
        return reader.length;
    }

    public int line() {
        int fault = reader.readLine(spareLine);
        if (fault != 0) {
            return fault;
        }
        Line read = spareLine;
        spareLine = told;
        told = read;
        now.begin(told);
        plan.clear();
        felt.clear();
        past.clear();
        return 0;
    }

    public int day() {
        int fault = reader.readDay(told, spareDay);
        if (fault != 0) {
            return fault;
        }
        Day read = spareDay;
        spareDay = plan;
        plan = read;
        return 0;
    }

    public int cloth(int cloth, int what) {
        if (!told.has(cloth)) {
            return NONE;
        }
        switch (what) {
            case 0:
                return told.kinds[cloth];
            case 1:
                return now.wet[cloth];
            case 2:
                return now.stains[cloth];
            case 3:
                return now.held[cloth];
            case 4:
                return now.isLaw(told, cloth) ? 1 : 0;
            case 5:
                return now.isTurned(cloth) ? 1 : 0;
            case 6:
                return now.roomOf(told, cloth);
            case 7:
                return told.pullOn(cloth, now.wet[cloth], told.windAt(now.hour));
            default:
                return NONE;
        }
    }

    public int peg(int peg, int what) {
        if (peg < 0 || peg >= now.pegs) {
            return OTHERS;
        }
        if (what == 0) {
            return now.grips[peg];
        }
        return what == 1 ? now.heldBy(peg) : OTHERS;
    }

    public int free() {
        return now.freePegs();
    }

    public int laws() {
        return now.lawBits(told);
    }

    public int hang(int cloth, int pegs) {
        past.draft(now);
        if (!now.hangUp(told, cloth, pegs)) {
            return NONE;
        }
        past.keepDraft();
        return now.roomLeft(told);
    }

    public boolean take(int cloth) {
        past.draft(now);
        if (!now.takeIn(told, cloth)) {
            return false;
        }
        past.keepDraft();
        return true;
    }

    public int wash(int cloth) {
        past.draft(now);
        int stains = now.washOut(told, cloth);
        if (stains != NONE) {
            past.keepDraft();
        }
        return stains;
    }

    public int buy(int grip) {
        past.draft(now);
        int peg = now.addPeg(grip);
        if (peg != NONE) {
            past.keepDraft();
        }
        return peg;
    }

    public int hour() {
        past.draft(now);
        past.keepDraft();
        return now.passHour(told, 0);
    }

    public boolean undo() {
        return past.stepBack(now);
    }

    public int judged(int what) {
        if (what < 0 || what > 2) {
            return OTHERS;
        }
        plan.judge(told, trial);
        if (what == 0) {
            return plan.firstRefused;
        }
        return what == 1 ? plan.firstFall : trial.worthOfLaws(told);
    }

    public int holds(int cloth) {
        if (!told.has(cloth) || now.held[cloth] == 0) {
            return NONE;
        }
        trial.copyFrom(now);
        for (int hours = 1; hours <= 40; hours++) {
            if (trial.passAlone(told, cloth, hours - 1)) {
                return hours;
            }
        }
        return NONE;
    }

    public int clashes() {
        return told.clashesAmong(now.lawBits(told));
    }

    public int mend(int what) {
        if (what != 0 && what != 1) {
            return NONE;
        }
        int laws = now.lawBits(told);
        int best = laws;
        int least = told.worthOf(laws);
        // Downwards, so that of equal ones the least set is the last to be found.
        for (int set = laws; set >= 0; set--) {
            int worth = told.worthOf(set);
            if ((set & ~laws) == 0 && worth <= least && told.clashesAmong(laws & ~set) == 0) {
                best = set;
                least = worth;
            }
        }
        return what == 0 ? least : best;
    }

    public int fill(int hours, int cloth) {
        if (hours < 1 || hours > 6 || (cloth != NONE && !told.has(cloth))) {
            return OTHERS;
        }
        filler.plan(told, now, hours);
        return cloth == NONE ? filler.best : filler.row[cloth];
    }

    public int odds(int cloth, int hours) {
        if (!told.has(cloth) || now.held[cloth] == 0 || hours < 1 || hours > 8) {
            return NONE;
        }
        return chances.millionths(told, now, cloth, hours);
    }

    public int dry(int what) {
        laundry.plan(told, now);
        if (laundry.hours == NONE) {
            return NONE;
        }
        if (what == 0) {
            return laundry.hours;
        }
        return what >= 1 && what <= laundry.count ? laundry.order[what - 1] : NONE;
    }

    public boolean feel(int cloth, int hours, int wet) {
        if (!told.has(cloth) || hours < 0 || hours > FELT_HOURS || wet < 0 || wet > SOAKED) {
            return false;
        }
        return felt.add(cloth, hours, wet);
    }

    public int starts() {
        return felt.startBits(told);
    }

    public int ask(int cloth) {
        return told.has(cloth) ? felt.bestHours(told, cloth) : NONE;
    }

    public int change(int hours) {
        if (hours < 1 || hours > 20) {
            return NONE;
        }
        int best = NONE;
        int most = worthBehind(hours, NONE);
        for (int peg = 0; peg < now.pegs; peg++) {
            int worth = worthBehind(hours, peg);
            if (worth > most) {
                best = peg;
                most = worth;
            }
        }
        return best;
    }

    public int rests(int one, int other, int third, int what) throws NoSuchElementException {
        if (!isWorth(one) || !isWorth(other) || !isWorth(third) || what < NONE) {
            throw new NoSuchElementException("no such worths or no such rest");
        }
        int found = 0;
        for (int pair = 0; pair < 9; pair++) {
            if (isRest(one, other, third, pair)) {
                if (found == what) {
                    return pair;
                }
                found++;
            }
        }
        if (what != NONE) {
            throw new NoSuchElementException("fewer rests");
        }
        return found;
    }

    public int decades(int seed, int hours, int what) {
        if (seed < 0 || seed > 9999 || hours < 1 || hours > 60 || what < 0 || what > 2) {
            return NONE;
        }
        drawn = seed;
        trial.copyFrom(now);
        int laws = 0;
        int falls = 0;
        for (int i = 0; i < hours; i++) {
            handleByDraws();
            falls += trial.passHour(told, draw(GUST_ODDS) < told.gusts ? GUST : 0);
            laws += Integer.bitCount(trial.lawBits(told));
        }
        if (what == 0) {
            return laws;
        }
        return what == 1 ? falls : trial.gripsOf((1 << trial.pegs) - 1);
    }

    public boolean mark(int mark, boolean back) {
        if (mark < 0 || mark >= MARKS) {
            return false;
        }
        if (back) {
            return past.goBack(mark, now, felt);
        }
        past.lay(mark, now, felt);
        return true;
    }

    public int count(int what) {
        switch (what) {
            case 0:
                return told.cloths;
            case 1:
                return now.pegs;
            case 2:
                return told.yards;
            case 3:
                return now.roomLeft(told);
            case 4:
                return now.hour;
            case 5:
                return told.windAt(now.hour);
            case 6:
                return now.worthOfLaws(told);
            case 7:
                return now.turnedBits(told);
            case 8:
                return told.clashPairs;
            case 9:
                return plan.lines;
            case 10:
                return felt.count;
            case 11:
                return past.count;
            case 12:
                return reader.length;
            default:
                return NONE;
        }
    }

    private int worthBehind(int hours, int changedPeg) {
        trial.copyFrom(now);
        if (changedPeg != NONE) {
            trial.grips[changedPeg] = MOST_GRIP;
        }
        for (int i = 0; i < hours; i++) {
            trial.passHour(told, 0);
        }
        return trial.worthOfLaws(told);
    }

    private void handleByDraws() {
        if (told.cloths == 0) {
            return;
        }
        int cloth = draw(told.cloths);
        if (trial.held[cloth] == 0) {
            trial.hangUp(told, cloth, trial.firstFree(told.pegsFor(cloth)));
        } else if (draw(4) == 0) {
            trial.takeIn(told, cloth);
        }
    }

    private int draw(int below) {
        drawn = (drawn * 1103515245L + 12345L) % 2147483648L;
        return below < 1 ? 0 : (int) (drawn / 65536L % below);
    }

    private static boolean isWorth(int worth) {
        return worth >= 0 && worth <= 9;
    }

    private static boolean isRest(int one, int other, int third, int pair) {
        int guard = pair / 3;
        int thief = pair % 3;
        int loot = loot(one, other, third, guard, thief);
        for (int elsewhere = 0; elsewhere < 3; elsewhere++) {
            if (loot(one, other, third, elsewhere, thief) < loot
                    || loot(one, other, third, guard, elsewhere) > loot) {
                return false;
            }
        }
        return true;
    }

    private static int loot(int one, int other, int third, int guard, int thief) {
        if (guard == thief) {
            return 0;
        }
        if (thief == 0) {
            return one;
        }
        return thief == 1 ? other : third;
    }

    /** A told E, as code for a stack: operands ahead of what joins them. */
    private static final class Rule {
        // Facts and joiners are below 0, since NUMBERS are not.
        private static final int FACT_WIND = -1;
        private static final int FACT_MASS = -2;
        private static final int FACT_SIZE = -3;
        private static final int NEGATE = -4;
        private static final int BOTH = -5;
        private static final int EITHER = -6;
        private static final int LESS = -7;
        private static final int SAME = -8;
        private static final int PLUS = -9;
        private static final int MINUS = -10;
        private static final int TIMES = -11;
        // At most 5 levels of brackets stand open, each with 4 operands that wait.
        private static final int MOST_WAITING = 32;

        private final int[] code = new int[MOST_SIGNS];
        private final int[] stack = new int[MOST_WAITING];
        private int length;

        void clear() {
            length = 0;
        }

        void add(int step) {
            if (length < code.length) {
                code[length] = step;
                length++;
            }
        }

        int value(int wind, int mass, int size) {
            int top = 0;
            for (int i = 0; i < length; i++) {
                int step = code[i];
                if (step > NEGATE) {
                    if (top < stack.length) {
                        stack[top] = step >= 0 ? step : fact(step, wind, mass, size);
                        top++;
                    }
                } else if (step == NEGATE) {
                    if (top > 0) {
                        stack[top - 1] = stack[top - 1] == 0 ? 1 : 0;
                    }
                } else if (top > 1) {
                    top--;
                    stack[top - 1] = joined(step, stack[top - 1], stack[top]);
                }
            }
            return top > 0 ? stack[0] : 0;
        }

        private static int fact(int step, int wind, int mass, int size) {
            if (step == FACT_WIND) {
                return wind;
            }
            return step == FACT_MASS ? mass : size;
        }

        private static int joined(int step, int left, int right) {
            switch (step) {
                case BOTH:
                    return left != 0 && right != 0 ? 1 : 0;
                case EITHER:
                    return left != 0 || right != 0 ? 1 : 0;
                case LESS:
                    return left < right ? 1 : 0;
                case SAME:
                    return left == right ? 1 : 0;
                case PLUS:
                    return left + right;
                case MINUS:
                    return left - right;
                default:
                    return left * right;
            }
        }
    }

    /** What a LINE tells, and the laws of pulling and drying that follow from it. */
    private static final class Line {
        private final long[] names = new long[MOST_CLOTHS];
        private final int[] kinds = new int[MOST_CLOTHS];
        private final int[] widths = new int[MOST_CLOTHS];
        private final int[] weights = new int[MOST_CLOTHS];
        private final int[] worths = new int[MOST_CLOTHS];
        // Of each CLOTH those behind it in number that it clashes with: each pair stands once.
        private final int[] foes = new int[MOST_CLOTHS];
        private final int[] grips = new int[MOST_PEGS];
        private final int[] winds = new int[MOST_WINDS];
        private final Rule pulls = new Rule();
        private final Rule dries = new Rule();
        private int cloths;
        private int pegs;
        private int windCount;
        private int yards;
        private int gusts;
        private int clashPairs;

        Line() {
            clear();
        }

        void clear() {
            Arrays.fill(foes, 0);
            cloths = 0;
            pegs = 0;
            winds[0] = 3;
            windCount = 1;
            yards = 20;
            gusts = 0;
            clashPairs = 0;
            pulls.clear();
            pulls.add(Rule.FACT_WIND);
            pulls.add(Rule.FACT_SIZE);
            pulls.add(Rule.PLUS);
            pulls.add(Rule.FACT_MASS);
            pulls.add(Rule.MINUS);
            dries.clear();
            dries.add(Rule.FACT_WIND);
        }

        boolean has(int cloth) {
            return cloth >= 0 && cloth < cloths;
        }

        int clothNamed(long name) {
            for (int cloth = 0; cloth < cloths; cloth++) {
                if (names[cloth] == name) {
                    return cloth;
                }
            }
            return NONE;
        }

        boolean clashTold(int one, int other) {
            return (foes[Math.min(one, other)] >> Math.max(one, other) & 1) != 0;
        }

        void addClash(int one, int other) {
            foes[Math.min(one, other)] |= 1 << Math.max(one, other);
            clashPairs++;
        }

        int clashesAmong(int set) {
            int pairs = 0;
            for (int cloth = 0; cloth < cloths; cloth++) {
                if ((set >> cloth & 1) != 0) {
                    pairs += Integer.bitCount(foes[cloth] & set);
                }
            }
            return pairs;
        }

        int worthOf(int set) {
            int worth = 0;
            for (int cloth = 0; cloth < cloths; cloth++) {
                if ((set >> cloth & 1) != 0) {
                    worth += worths[cloth];
                }
            }
            return worth;
        }

        int pegsFor(int cloth) {
            return kinds[cloth] == SHEET_KIND ? 4 : 2;
        }

        int windAt(int hour) {
            return windCount < 1 ? 0 : winds[Math.floorMod(hour, windCount)];
        }

        int pullOn(int cloth, int wet, int wind) {
            int pull = pulls.value(wind, massOf(cloth, wet), widths[cloth]);
            pull = Math.max(0, Math.min(99, pull));
            return kinds[cloth] == FLAG_KIND ? 2 * pull : pull;
        }

        int wetAfter(int cloth, int wet, int wind) {
            int less = dries.value(wind, massOf(cloth, wet), widths[cloth]);
            return Math.max(0, wet - Math.max(0, Math.min(9, less)));
        }

        private int massOf(int cloth, int wet) {
            return weights[cloth] + (kinds[cloth] == WOOL_KIND ? 2 * wet : wet);
        }
    }

    /** The hour, the CLOTHS and the PEGS as they are at one time. */
    private static final class State {
        private final int[] wet = new int[MOST_CLOTHS];
        private final int[] stains = new int[MOST_CLOTHS];
        private final int[] held = new int[MOST_CLOTHS];
        private final int[] grips = new int[MOST_PEGS];
        private int pegs;
        private int hour;

        void begin(Line line) {
            Arrays.fill(wet, 0);
            Arrays.fill(stains, 0);
            Arrays.fill(held, 0);
            System.arraycopy(line.grips, 0, grips, 0, MOST_PEGS);
            pegs = line.pegs;
            hour = 0;
        }

        void copyFrom(State other) {
            System.arraycopy(other.wet, 0, wet, 0, MOST_CLOTHS);
            System.arraycopy(other.stains, 0, stains, 0, MOST_CLOTHS);
            System.arraycopy(other.held, 0, held, 0, MOST_CLOTHS);
            System.arraycopy(other.grips, 0, grips, 0, MOST_PEGS);
            pegs = other.pegs;
            hour = other.hour;
        }

        boolean isLaw(Line line, int cloth) {
            return Integer.bitCount(held[cloth]) == line.pegsFor(cloth) && stains[cloth] < LAWLESS_STAINS;
        }

        boolean isTurned(int cloth) {
            return Integer.bitCount(held[cloth]) == 1;
        }

        int lawBits(Line line) {
            int bits = 0;
            for (int cloth = 0; cloth < line.cloths; cloth++) {
                if (isLaw(line, cloth)) {
                    bits |= 1 << cloth;
                }
            }
            return bits;
        }

        int turnedBits(Line line) {
            int bits = 0;
            for (int cloth = 0; cloth < line.cloths; cloth++) {
                if (isTurned(cloth)) {
                    bits |= 1 << cloth;
                }
            }
            return bits;
        }

        int worthOfLaws(Line line) {
            return line.worthOf(lawBits(line));
        }

        int roomOf(Line line, int cloth) {
            return roomBy(line, cloth, Integer.bitCount(held[cloth]));
        }

        int roomLeft(Line line) {
            int left = line.yards;
            for (int cloth = 0; cloth < line.cloths; cloth++) {
                left -= roomOf(line, cloth);
            }
            return left;
        }

        int heldBy(int peg) {
            for (int cloth = 0; cloth < MOST_CLOTHS; cloth++) {
                if ((held[cloth] >> peg & 1) != 0) {
                    return cloth;
                }
            }
            return NONE;
        }

        int freePegs() {
            int bits = unsplitPegs();
            for (int cloth = 0; cloth < MOST_CLOTHS; cloth++) {
                bits &= ~held[cloth];
            }
            return bits;
        }

        int unsplitPegs() {
            int bits = 0;
            for (int peg = 0; peg < pegs; peg++) {
                if (grips[peg] > 0) {
                    bits |= 1 << peg;
                }
            }
            return bits;
        }

        /** None if there are fewer: hung by fewer, a CLOTH would mean something else. */
        int firstFree(int many) {
            int left = freePegs();
            int bits = 0;
            for (int i = 0; i < many; i++) {
                bits |= Integer.lowestOneBit(left);
                left &= left - 1;
            }
            return Integer.bitCount(bits) == many ? bits : 0;
        }

        int gripsOf(int bits) {
            return gripsLess(bits, 0);
        }

        int gripsLess(int bits, int less) {
            int sum = 0;
            for (int peg = 0; peg < pegs; peg++) {
                if ((bits >> peg & 1) != 0) {
                    sum += Math.max(0, grips[peg] - less);
                }
            }
            return sum;
        }

        boolean hangUp(Line line, int cloth, int bits) {
            if (!line.has(cloth) || held[cloth] != 0 || (bits & ~freePegs()) != 0) {
                return false;
            }
            int many = Integer.bitCount(bits);
            if ((many != 1 && many != line.pegsFor(cloth)) || roomBy(line, cloth, many) > roomLeft(line)) {
                return false;
            }
            held[cloth] = bits;
            return true;
        }

        boolean takeIn(Line line, int cloth) {
            if (!line.has(cloth) || held[cloth] == 0) {
                return false;
            }
            held[cloth] = 0;
            return true;
        }

        int washOut(Line line, int cloth) {
            if (!line.has(cloth) || held[cloth] != 0) {
                return NONE;
            }
            int had = stains[cloth];
            stains[cloth] = 0;
            wet[cloth] = SOAKED;
            return had;
        }

        int addPeg(int grip) {
            if (grip < 1 || grip > MOST_GRIP || pegs >= MOST_PEGS) {
                return NONE;
            }
            grips[pegs] = grip;
            pegs++;
            return pegs - 1;
        }

        int passHour(Line line, int gust) {
            int wind = line.windAt(hour) + gust;
            int falls = 0;
            for (int cloth = 0; cloth < line.cloths; cloth++) {
                if (held[cloth] != 0 && fallsBy(line, cloth, wind)) {
                    falls++;
                }
            }
            for (int cloth = 0; cloth < line.cloths; cloth++) {
                if (held[cloth] != 0) {
                    wet[cloth] = line.wetAfter(cloth, wet[cloth], wind);
                }
            }
            hour++;
            return falls;
        }

        /** An HOUR of one CLOTH: no other one has a part in whether it falls. */
        boolean passAlone(Line line, int cloth, int hoursFromNow) {
            int wind = line.windAt(hour + hoursFromNow);
            if (fallsBy(line, cloth, wind)) {
                return true;
            }
            wet[cloth] = line.wetAfter(cloth, wet[cloth], wind);
            return false;
        }

        private boolean fallsBy(Line line, int cloth, int wind) {
            int pull = line.pullOn(cloth, wet[cloth], wind);
            int grip = gripsOf(held[cloth]);
            if (2 * pull > grip) {
                weaken(held[cloth]);
                held[cloth] = pull > grip ? 0 : held[cloth] & unsplitPegs();
            }
            if (held[cloth] != 0) {
                return false;
            }
            wet[cloth] = SOAKED;
            stains[cloth] = Math.min(MOST_STAINS, stains[cloth] + 1);
            return true;
        }

        private void weaken(int bits) {
            for (int peg = 0; peg < pegs; peg++) {
                if ((bits >> peg & 1) != 0 && grips[peg] > 0) {
                    grips[peg]--;
                }
            }
        }

        private static int roomBy(Line line, int cloth, int many) {
            if (many == 0) {
                return 0;
            }
            return many == 1 ? line.widths[cloth] / 2 + 1 : line.widths[cloth];
        }
    }

    /** The TAPE: its signs as tokens, the tokens as a LINE or a DAY. */
    private static final class Reader {
        private static final String WORDS = "cloth wide weight worth pegs winds yards gusts clash pulls dries hang take wash buy hour plain sheet flag wool not and or wind mass size ";
        private static final String SIGNS = "()<=+-*;";
        private static final int MOST_LETTERS = 8;
        private static final int MOST_DIGITS = 4;
        private static final int MOST_WITHIN = 5;
        // What a token is: one of these, or the number of its sign.
        private static final int END = 0;
        private static final int BROKEN = 1;
        private static final int WORD = 2;
        private static final int NUMBER = 3;
        // FAULTS.
        private static final int MISPLACED = 1;
        private static final int UNKNOWN = 2;
        private static final int AGAIN = 3;
        private static final int UNFIT = 4;
        private static final int TOO_MANY = 5;

        private final char[] tape = new char[MOST_SIGNS];
        private int length;
        private int place;
        private int behind;
        private int sort;
        private int number;
        private long name;
        private int word;
        private int toldOnce;
        private int fault;

        void addSigns(long eight) {
            for (int shift = 56; shift >= 0; shift -= 8) {
                int sign = (int) (eight >>> shift & 255);
                if ((sign == 10 || (sign >= 32 && sign <= 126)) && length < tape.length) {
                    tape[length] = (char) sign;
                    length++;
                }
            }
        }

        int readLine(Line line) {
            line.clear();
            toldOnce = 0;
            begin();
            for (int i = 0; i < MOST_SIGNS && fault == 0 && sort != END; i++) {
                readTold(line);
            }
            length = 0;
            return fault;
        }

        int readDay(Line line, Day into) {
            into.clear();
            begin();
            for (int i = 0; i < MOST_SIGNS && fault == 0 && sort != END; i++) {
                readDone(line, into);
            }
            length = 0;
            return fault;
        }

        private void begin() {
            fault = 0;
            behind = 0;
            next();
        }

        private void readTold(Line line) {
            int first = sort == WORD ? word : NONE;
            if (first == CLOTH) {
                readCloth(line);
            } else if (first == CLASH) {
                readClash(line);
            } else if (first >= PEGS && first <= DRIES) {
                readOnce(line, first);
            } else {
                fail(MISPLACED);
            }
            expectSign(';');
        }

        private void readCloth(Line line) {
            int cloth = line.cloths;
            if (cloth >= MOST_CLOTHS) {
                fail(TOO_MANY);
                return;
            }
            next();
            if (!isName()) {
                fail(MISPLACED);
            } else if (line.clothNamed(name) != NONE) {
                fail(AGAIN);
            }
            line.names[cloth] = name;
            next();
            if (sort != WORD || word < PLAIN || word > WOOL) {
                fail(MISPLACED);
            }
            line.kinds[cloth] = word - PLAIN;
            next();
            line.widths[cloth] = readMeasure(WIDE, 1, 20);
            line.weights[cloth] = readMeasure(WEIGHT, 0, 20);
            line.worths[cloth] = readMeasure(WORTH, 0, 99);
            line.cloths++;
        }

        private int readMeasure(int measure, int least, int most) {
            if (sort != WORD || word != measure) {
                fail(MISPLACED);
            }
            next();
            return readNumber(least, most);
        }

        private void readClash(Line line) {
            next();
            int one = readNamed(line);
            if (fault != 0) {
                return;
            }
            int other = namedHere(line);
            if (fault == 0 && (one == other || line.clashTold(one, other))) {
                fail(AGAIN);
            }
            next();
            if (fault == 0) {
                line.addClash(one, other);
            }
        }

        private void readOnce(Line line, int first) {
            if ((toldOnce >> first & 1) != 0) {
                fail(AGAIN);
                return;
            }
            toldOnce |= 1 << first;
            next();
            switch (first) {
                case PEGS:
                    line.pegs = readRow(line.grips, 1, 9);
                    break;
                case WINDS:
                    line.windCount = readRow(line.winds, 0, 9);
                    break;
                case YARDS:
                    line.yards = readNumber(1, 60);
                    break;
                case GUSTS:
                    line.gusts = readNumber(0, GUST_ODDS);
                    break;
                case PULLS:
                    line.pulls.clear();
                    readTests(line.pulls, 0);
                    break;
                default:
                    line.dries.clear();
                    readTests(line.dries, 0);
                    break;
            }
        }

        /** NUMBERS as many as row holds, at least one: how many. */
        private int readRow(int[] row, int least, int most) {
            int many = 0;
            for (int i = 0; i <= row.length && fault == 0 && (i == 0 || sort == NUMBER); i++) {
                int value = numberHere(least, most);
                if (fault == 0 && many >= row.length) {
                    fail(TOO_MANY);
                }
                if (fault == 0) {
                    row[many] = value;
                    many++;
                }
                next();
            }
            return many;
        }

        private void readDone(Line line, Day into) {
            int first = sort == WORD ? word : NONE;
            if (first < HANG || first > HOUR) {
                fail(MISPLACED);
                return;
            }
            if (into.lines >= MOST_DAY_LINES) {
                fail(TOO_MANY);
                return;
            }
            next();
            int cloth = first <= WASH ? readNamed(line) : NONE;
            int detail = 0;
            if (first == HANG) {
                detail = readPegs();
            } else if (first == BUY) {
                detail = readNumber(1, MOST_GRIP);
            }
            expectSign(';');
            into.add(first, cloth, detail);
        }

        private int readPegs() {
            int bits = 0;
            for (int i = 0; i <= 4 && fault == 0 && (i == 0 || sort == NUMBER); i++) {
                int peg = numberHere(0, MOST_PEGS - 1);
                if (fault == 0 && (bits >> peg & 1) != 0) {
                    fail(AGAIN);
                }
                if (i == 4) {
                    fail(TOO_MANY);
                }
                bits |= 1 << peg;
                next();
            }
            return bits;
        }

        private void readTests(Rule rule, int within) {
            readTest(rule, within);
            for (int i = 0; i < MOST_SIGNS && fault == 0 && sort == WORD && (word == AND || word == OR); i++) {
                int joiner = word == AND ? Rule.BOTH : Rule.EITHER;
                next();
                readTest(rule, within);
                rule.add(joiner);
            }
        }

        private void readTest(Rule rule, int within) {
            readSum(rule, within);
            if (fault == 0 && (sort == '<' || sort == '=')) {
                int joiner = sort == '<' ? Rule.LESS : Rule.SAME;
                next();
                readSum(rule, within);
                rule.add(joiner);
            }
        }

        private void readSum(Rule rule, int within) {
            readProduct(rule, within);
            for (int i = 0; i < MOST_SIGNS && fault == 0 && (sort == '+' || sort == '-'); i++) {
                int joiner = sort == '+' ? Rule.PLUS : Rule.MINUS;
                next();
                readProduct(rule, within);
                rule.add(joiner);
            }
        }

        private void readProduct(Rule rule, int within) {
            readPart(rule, within);
            for (int i = 0; i < MOST_SIGNS && fault == 0 && sort == '*'; i++) {
                next();
                readPart(rule, within);
                rule.add(Rule.TIMES);
            }
        }

        private void readPart(Rule rule, int within) {
            boolean fact = sort == WORD && word >= WIND;
            boolean not = sort == WORD && word == NOT;
            if (!fact && !not && sort != NUMBER && sort != '(') {
                fail(MISPLACED);
                return;
            }
            if (within >= MOST_WITHIN) {
                fail(TOO_MANY);
                return;
            }
            if (sort == '(') {
                next();
                readTests(rule, within + 1);
                expectSign(')');
            } else if (not) {
                next();
                readPart(rule, within + 1);
                rule.add(Rule.NEGATE);
            } else {
                rule.add(fact ? Rule.FACT_WIND - (word - WIND) : number);
                next();
            }
        }

        private int readNumber(int least, int most) {
            int value = numberHere(least, most);
            next();
            return value;
        }

        private int numberHere(int least, int most) {
            if (sort != NUMBER) {
                fail(MISPLACED);
            } else if (number < least || number > most) {
                fail(UNFIT);
            }
            return fault == 0 ? number : least;
        }

        private int readNamed(Line line) {
            int cloth = namedHere(line);
            next();
            return cloth;
        }

        private int namedHere(Line line) {
            if (!isName()) {
                fail(MISPLACED);
                return NONE;
            }
            int cloth = line.clothNamed(name);
            if (cloth == NONE) {
                fail(UNKNOWN);
            }
            return cloth;
        }

        private boolean isName() {
            return sort == WORD && (word == NONE || word >= WIND);
        }

        private void expectSign(int sign) {
            if (sort != sign) {
                fail(MISPLACED);
            }
            next();
        }

        /** Only the first FAULT counts: behind it no token is read any more. */
        private void fail(int kind) {
            if (fault == 0) {
                fault = kind + 16 * place;
            }
        }

        private void next() {
            if (fault != 0) {
                return;
            }
            place = behind;
            for (int i = behind; i < length && (tape[i] == 10 || tape[i] == ' '); i++) {
                place = i + 1;
            }
            int letters = 0;
            name = 0;
            for (int i = place; i < length && isLetter(tape[i]); i++) {
                name = 32 * name + (tape[i] - 'a' + 1);
                letters++;
            }
            int digits = 0;
            number = 0;
            for (int i = place; i < length && isDigit(tape[i]); i++) {
                number = 10 * number + (tape[i] - '0');
                digits++;
            }
            behind = Math.min(length, place + Math.max(1, Math.max(letters, digits)));
            word = letters > 0 ? knownWord(name) : NONE;
            sort = sortOf(letters, digits);
        }

        private int sortOf(int letters, int digits) {
            if (place >= length) {
                return END;
            }
            if (letters > 0) {
                return letters <= MOST_LETTERS ? WORD : BROKEN;
            }
            if (digits > 0) {
                return digits <= MOST_DIGITS ? NUMBER : BROKEN;
            }
            return SIGNS.indexOf(tape[place]) >= 0 ? tape[place] : BROKEN;
        }

        private static int knownWord(long name) {
            int found = 0;
            long known = 0;
            for (int i = 0; i < WORDS.length(); i++) {
                char sign = WORDS.charAt(i);
                if (sign != ' ') {
                    known = 32 * known + (sign - 'a' + 1);
                } else if (known == name) {
                    return found;
                } else {
                    known = 0;
                    found++;
                }
            }
            return NONE;
        }

        private static boolean isLetter(char sign) {
            return sign >= 'a' && sign <= 'z';
        }

        private static boolean isDigit(char sign) {
            return sign >= '0' && sign <= '9';
        }
    }

    /** The told lines of a DAY, and how they are JUDGED. */
    private static final class Day {
        private final int[] deeds = new int[MOST_DAY_LINES];
        private final int[] cloths = new int[MOST_DAY_LINES];
        private final int[] details = new int[MOST_DAY_LINES];
        private int lines;
        private int firstRefused;
        private int firstFall;

        void clear() {
            lines = 0;
        }

        void add(int deed, int cloth, int detail) {
            if (lines < MOST_DAY_LINES) {
                deeds[lines] = deed;
                cloths[lines] = cloth;
                details[lines] = detail;
                lines++;
            }
        }

        void judge(Line line, State state) {
            firstRefused = NONE;
            firstFall = NONE;
            state.begin(line);
            for (int i = 0; i < lines; i++) {
                if (deeds[i] == HOUR) {
                    if (state.passHour(line, 0) > 0 && firstFall == NONE) {
                        firstFall = i;
                    }
                } else if (!canDo(line, state, i) && firstRefused == NONE) {
                    firstRefused = i;
                }
            }
        }

        private boolean canDo(Line line, State state, int i) {
            switch (deeds[i]) {
                case HANG:
                    return state.hangUp(line, cloths[i], details[i]);
                case TAKE:
                    return state.takeIn(line, cloths[i]);
                case WASH:
                    return state.washOut(line, cloths[i]) != NONE;
                default:
                    return state.addPeg(details[i]) != NONE;
            }
        }
    }

    /** What is FELT, and by which first hours it is so. */
    private static final class Felt {
        private final int[] cloths = new int[MOST_FELT];
        private final int[] hours = new int[MOST_FELT];
        private final int[] wets = new int[MOST_FELT];
        private final int[] wetByStart = new int[MOST_WINDS];
        private final int[] startsByWet = new int[WETNESSES];
        private int count;

        void clear() {
            count = 0;
        }

        void copyFrom(Felt other) {
            System.arraycopy(other.cloths, 0, cloths, 0, MOST_FELT);
            System.arraycopy(other.hours, 0, hours, 0, MOST_FELT);
            System.arraycopy(other.wets, 0, wets, 0, MOST_FELT);
            count = other.count;
        }

        boolean add(int cloth, int behind, int wet) {
            if (count >= MOST_FELT) {
                return false;
            }
            cloths[count] = cloth;
            hours[count] = behind;
            wets[count] = wet;
            count++;
            return true;
        }

        int startBits(Line line) {
            int bits = 0;
            for (int start = 0; start < line.windCount; start++) {
                if (allSo(line, start)) {
                    bits |= 1 << start;
                }
            }
            return bits;
        }

        private boolean allSo(Line line, int start) {
            for (int i = 0; i < count; i++) {
                int wet = SOAKED;
                for (int h = 0; h < hours[i]; h++) {
                    wet = line.wetAfter(cloths[i], wet, line.windAt(start + h));
                }
                if (wet != wets[i]) {
                    return false;
                }
            }
            return true;
        }

        int bestHours(Line line, int cloth) {
            int bits = startBits(line);
            int least = Integer.bitCount(bits);
            int best = NONE;
            Arrays.fill(wetByStart, SOAKED);
            for (int h = 0; h <= FELT_HOURS; h++) {
                int most = mostAlike(bits);
                if (most < least) {
                    least = most;
                    best = h;
                }
                for (int start = 0; start < line.windCount; start++) {
                    wetByStart[start] = line.wetAfter(cloth, wetByStart[start], line.windAt(start + h));
                }
            }
            return best;
        }

        private int mostAlike(int bits) {
            Arrays.fill(startsByWet, 0);
            int most = 0;
            for (int start = 0; start < MOST_WINDS; start++) {
                int wet = wetByStart[start];
                if ((bits >> start & 1) != 0 && wet >= 0 && wet < WETNESSES) {
                    startsByWet[wet]++;
                    most = Math.max(most, startsByWet[wet]);
                }
            }
            return most;
        }
    }

    /** What can be undone, and the MARKS. */
    private static final class Past {
        // One more than can be undone: the draft must not lie on the oldest one.
        private final State[] steps = new State[MOST_UNDONE + 1];
        private final State[] markedStates = new State[MARKS];
        private final Felt[] markedFelts = new Felt[MARKS];
        private final boolean[] laid = new boolean[MARKS];
        private int draftAt;
        private int count;

        Past() {
            for (int i = 0; i < steps.length; i++) {
                steps[i] = new State();
            }
            for (int i = 0; i < MARKS; i++) {
                markedStates[i] = new State();
                markedFelts[i] = new Felt();
            }
        }

        void clear() {
            count = 0;
            for (int mark = 0; mark < MARKS; mark++) {
                laid[mark] = false;
            }
        }

        void draft(State state) {
            steps[draftAt].copyFrom(state);
        }

        void keepDraft() {
            draftAt = (draftAt + 1) % steps.length;
            count = Math.min(MOST_UNDONE, count + 1);
        }

        boolean stepBack(State state) {
            if (count == 0) {
                return false;
            }
            count--;
            draftAt = (draftAt + steps.length - 1) % steps.length;
            state.copyFrom(steps[draftAt]);
            return true;
        }

        void lay(int mark, State state, Felt felt) {
            markedStates[mark].copyFrom(state);
            markedFelts[mark].copyFrom(felt);
            laid[mark] = true;
        }

        boolean goBack(int mark, State state, Felt felt) {
            if (!laid[mark]) {
                return false;
            }
            state.copyFrom(markedStates[mark]);
            felt.copyFrom(markedFelts[mark]);
            count = 0;
            return true;
        }
    }

    /** FILL: for each set of CLOTHS, which PEGS together can hold it; then the first row of the most worth. */
    private static final class Filler {
        private static final int SETS = 64;
        private static final int WORDS_A_SET = 4;
        private static final int MOST_CHOICES = 70;

        private final int[] choices = new int[MOST_CLOTHS * MOST_CHOICES];
        private final int[] choiceCounts = new int[MOST_CLOTHS];
        private final int[] widths = new int[SETS];
        private final int[] worths = new int[SETS];
        private final boolean[] canHang = new boolean[SETS];
        // Of each set 256 bits, one for each set of PEGS: whether it can hang by just these.
        private final long[] holding = new long[SETS * WORDS_A_SET];
        private final int[] row = new int[MOST_CLOTHS];
        private int sets;
        private int masks;
        private int best;

        void plan(Line line, State state, int hours) {
            sets = 1 << line.cloths;
            masks = 1 << state.pegs;
            for (int cloth = 0; cloth < line.cloths; cloth++) {
                chooseFor(line, state, cloth, hours);
            }
            Arrays.fill(holding, 0);
            holding[0] = 1;
            canHang[0] = true;
            best = 0;
            for (int set = 1; set < sets; set++) {
                holdSet(line, set);
                if (canHang[set]) {
                    best = Math.max(best, worths[set]);
                }
            }
            layRow(line);
        }

        private void chooseFor(Line line, State state, int cloth, int hours) {
            int many = line.pegsFor(cloth);
            int split = ~state.unsplitPegs();
            int pull = mostPull(line, state, cloth, hours);
            int found = 0;
            if (state.stains[cloth] < LAWLESS_STAINS) {
                for (int bits = 1; bits < masks; bits++) {
                    if (Integer.bitCount(bits) == many && (bits & split) == 0
                            && state.gripsOf(bits) >= pull && found < MOST_CHOICES) {
                        choices[cloth * MOST_CHOICES + found] = bits;
                        found++;
                    }
                }
            }
            choiceCounts[cloth] = found;
        }

        private static int mostPull(Line line, State state, int cloth, int hours) {
            int wet = state.wet[cloth];
            int most = 0;
            for (int h = 0; h < hours; h++) {
                int wind = line.windAt(state.hour + h);
                most = Math.max(most, line.pullOn(cloth, wet, wind));
                wet = line.wetAfter(cloth, wet, wind);
            }
            return most;
        }

        /** A set hangs as it does without its last CLOTH, and that one by other PEGS. */
        private void holdSet(Line line, int set) {
            int cloth = 31 - Integer.numberOfLeadingZeros(set);
            int others = set & ~(1 << cloth);
            widths[set] = widths[others] + line.widths[cloth];
            worths[set] = worths[others] + line.worths[cloth];
            canHang[set] = false;
            if (!canHang[others] || widths[set] > line.yards || choiceCounts[cloth] == 0) {
                return;
            }
            for (int mask = 0; mask < masks; mask++) {
                if (holdsBy(others, mask)) {
                    holdMore(set, cloth, mask);
                }
            }
        }

        private void holdMore(int set, int cloth, int mask) {
            int from = cloth * MOST_CHOICES;
            for (int i = from; i < from + choiceCounts[cloth]; i++) {
                if ((choices[i] & mask) == 0) {
                    int all = choices[i] | mask;
                    holding[set * WORDS_A_SET + (all >> 6)] |= 1L << (all & 63);
                    canHang[set] = true;
                }
            }
        }

        private boolean holdsBy(int set, int mask) {
            return (holding[set * WORDS_A_SET + (mask >> 6)] >>> (mask & 63) & 1L) != 0;
        }

        private void layRow(Line line) {
            int set = 0;
            int used = 0;
            for (int cloth = 0; cloth < line.cloths; cloth++) {
                int with = set | 1 << cloth;
                int bits = firstChoice(line, with, cloth, used);
                row[cloth] = bits;
                if (bits != 0) {
                    set = with;
                    used |= bits;
                }
            }
        }

        private int firstChoice(Line line, int set, int cloth, int used) {
            int from = cloth * MOST_CHOICES;
            for (int i = from; i < from + choiceCounts[cloth]; i++) {
                if ((choices[i] & used) == 0 && canEnd(line, set, cloth + 1, used | choices[i])) {
                    return choices[i];
                }
            }
            return 0;
        }

        /** Whether some CLOTHS from next on make set one of the most worth by PEGS that are not used. */
        private boolean canEnd(Line line, int set, int next, int used) {
            int step = 1 << next;
            for (int more = 0; more < sets; more += step) {
                int all = set | more;
                if (worths[all] == best && widths[all] <= line.yards && holdsWithout(more, used)) {
                    return true;
                }
            }
            return false;
        }

        private boolean holdsWithout(int set, int used) {
            for (int mask = 0; mask < masks; mask++) {
                if ((mask & used) == 0 && holdsBy(set, mask)) {
                    return true;
                }
            }
            return false;
        }
    }

    /** ODDS: of how many of all runs of gusts a CLOTH still hangs, by how wet it is and how worn its PEGS are. */
    private static final class Chances {
        private static final int WEARS = 10;

        private final long[] runs = new long[WETNESSES * WEARS];
        private final long[] nextRuns = new long[WETNESSES * WEARS];

        int millionths(Line line, State state, int cloth, int hours) {
            long all = 1;
            Arrays.fill(runs, 0);
            runs[state.wet[cloth] * WEARS] = 1;
            for (int h = 0; h < hours; h++) {
                int wind = line.windAt(state.hour + h);
                Arrays.fill(nextRuns, 0);
                for (int from = 0; from < runs.length; from++) {
                    if (runs[from] != 0) {
                        goOn(line, state, cloth, from, wind, GUST_ODDS - line.gusts);
                        goOn(line, state, cloth, from, wind + GUST, line.gusts);
                    }
                }
                System.arraycopy(nextRuns, 0, runs, 0, runs.length);
                all *= GUST_ODDS;
            }
            long hanging = 0;
            for (int i = 0; i < runs.length; i++) {
                hanging += runs[i];
            }
            return all < 1 ? 0 : (int) (hanging * 1000000L / all);
        }

        private void goOn(Line line, State state, int cloth, int from, int wind, int odds) {
            int wet = from / WEARS;
            int worn = from % WEARS;
            int pull = line.pullOn(cloth, wet, wind);
            int grip = state.gripsLess(state.held[cloth], worn);
            if (pull > grip) {
                return;
            }
            if (2 * pull > grip) {
                worn++;
            }
            if (worn >= WEARS || state.gripsLess(state.held[cloth], worn) == 0) {
                return;
            }
            nextRuns[line.wetAfter(cloth, wet, wind) * WEARS + worn] += runs[from] * odds;
        }
    }

    /** DRY: in which order to wash, by which CLOTHS still wait. */
    private static final class Laundry {
        private static final int MOST_HOURS = 99;
        private static final int TOO_LATE = 100;
        private static final int SETS = 64;

        private final int[] dirty = new int[MOST_CLOTHS];
        private final int[] dryBehind = new int[MOST_CLOTHS * MOST_CLOTHS];
        private final int[] soonest = new int[SETS];
        private final int[] order = new int[MOST_CLOTHS];
        private int count;
        private int hours;

        void plan(Line line, State state) {
            count = 0;
            for (int cloth = 0; cloth < line.cloths; cloth++) {
                if (state.held[cloth] == 0 && state.stains[cloth] > 0) {
                    dirty[count] = cloth;
                    count++;
                }
            }
            for (int i = 0; i < count; i++) {
                for (int turn = 0; turn < count; turn++) {
                    dryBehind[i * MOST_CLOTHS + turn] = dryAt(line, dirty[i], state.hour, turn);
                }
            }
            soonest[0] = 0;
            int all = (1 << count) - 1;
            for (int waiting = 1; waiting <= all; waiting++) {
                soonest[waiting] = soonestOf(waiting);
            }
            hours = soonest[all] > MOST_HOURS ? NONE : soonest[all];
            layOrder(all);
        }

        private static int dryAt(Line line, int cloth, int hour, int turn) {
            int wet = SOAKED;
            for (int h = turn; h < MOST_HOURS; h++) {
                wet = line.wetAfter(cloth, wet, line.windAt(hour + h));
                if (wet == 0) {
                    return h + 1;
                }
            }
            return TOO_LATE;
        }

        private int soonestOf(int waiting) {
            int best = TOO_LATE;
            for (int i = 0; i < count; i++) {
                if ((waiting >> i & 1) != 0) {
                    best = Math.min(best, dryIfNext(waiting, i));
                }
            }
            return best;
        }

        private int dryIfNext(int waiting, int i) {
            int turn = count - Integer.bitCount(waiting);
            return Math.max(dryBehind[i * MOST_CLOTHS + turn], soonest[waiting & ~(1 << i)]);
        }

        private void layOrder(int all) {
            int waiting = all;
            for (int turn = 0; turn < count; turn++) {
                int next = firstInTime(waiting, soonest[all]);
                order[turn] = dirty[next];
                waiting &= ~(1 << next);
            }
        }

        private int firstInTime(int waiting, int time) {
            for (int i = 0; i < count; i++) {
                if ((waiting >> i & 1) != 0 && dryIfNext(waiting, i) <= time) {
                    return i;
                }
            }
            return 0;
        }
    }
}
