import java.util.ArrayDeque;
import java.util.ArrayList;
import java.util.Arrays;
import java.util.Collections;
import java.util.Deque;
import java.util.HashMap;
import java.util.HashSet;
import java.util.List;
import java.util.Map;
import java.util.NoSuchElementException;
import java.util.Random;
import java.util.Set;

/** Random runs of calls, each answer held against a slow model that was written from the document by itself. */
public final class ModelTest {
    // ---- the model: objects that know one another, searches by trying all ----

    interface Fact {
        int of(int wind, int mass, int size);
    }

    static final class Fault extends RuntimeException {
        private static final long serialVersionUID = 1L;
        final int code;

        Fault(int kind, int place) {
            super(null, null, false, false);
            code = kind + 16 * place;
        }
    }

    static final class Token {
        final String text;
        final int place;
        final char sort; // w word, n number, s sign, b broken, e end

        Token(String text, int place, char sort) {
            this.text = text;
            this.place = place;
            this.sort = sort;
        }

        boolean is(String other) {
            return sort != 'b' && text.equals(other);
        }
    }

    static final class Peg implements Cloneable {
        int grip;
        int holds = -1;

        Peg(int grip) {
            this.grip = grip;
        }

        Peg(Peg other) {
            grip = other.grip;
            holds = other.holds;
        }
    }

    static final class Told {
        final List<String> names = new ArrayList<>();
        final List<String> kinds = new ArrayList<>();
        final List<Integer> wide = new ArrayList<>();
        final List<Integer> weight = new ArrayList<>();
        final List<Integer> worth = new ArrayList<>();
        List<Integer> pegs = new ArrayList<>();
        List<Integer> winds = new ArrayList<>(List.of(3));
        int yards = 20;
        int gusts = 0;
        final List<Set<Integer>> clashes = new ArrayList<>();
        Fact pulls = (wind, mass, size) -> wind + size - mass;
        Fact dries = (wind, mass, size) -> wind;

        int wind(int hour) {
            return winds.get(hour % winds.size());
        }

        int mass(int c, int wet) {
            return weight.get(c) + wet * (kinds.get(c).equals("wool") ? 2 : 1);
        }

        int pull(int c, int wet, int wind) {
            int e = pulls.of(wind, mass(c, wet), wide.get(c));
            e = e < 0 ? 0 : e > 99 ? 99 : e;
            return kinds.get(c).equals("flag") ? e + e : e;
        }

        int dried(int c, int wet, int wind) {
            int e = dries.of(wind, mass(c, wet), wide.get(c));
            e = e < 0 ? 0 : e > 9 ? 9 : e;
            return e > wet ? 0 : wet - e;
        }

        int need(int c) {
            return kinds.get(c).equals("sheet") ? 4 : 2;
        }
    }

    static final class World {
        Told told;
        int hour;
        int[] wet;
        int[] stains;
        List<Peg> pegs = new ArrayList<>();

        World(Told told) {
            this.told = told;
            wet = new int[told.names.size()];
            stains = new int[told.names.size()];
            for (int grip : told.pegs) {
                pegs.add(new Peg(grip));
            }
        }

        World(World other) {
            told = other.told;
            hour = other.hour;
            wet = other.wet.clone();
            stains = other.stains.clone();
            for (Peg peg : other.pegs) {
                pegs.add(new Peg(peg));
            }
        }

        List<Peg> of(int c) {
            List<Peg> list = new ArrayList<>();
            for (Peg peg : pegs) {
                if (peg.holds == c) {
                    list.add(peg);
                }
            }
            return list;
        }

        int bits(int c) {
            int bits = 0;
            for (int i = 0; i < pegs.size(); i++) {
                if (pegs.get(i).holds == c) {
                    bits += 1 << i;
                }
            }
            return bits;
        }

        boolean in(int c) {
            return of(c).isEmpty();
        }

        boolean law(int c) {
            return of(c).size() == told.need(c) && stains[c] < 3;
        }

        boolean turned(int c) {
            return of(c).size() == 1;
        }

        int room(int c) {
            return in(c) ? 0 : turned(c) ? told.wide.get(c) / 2 + 1 : told.wide.get(c);
        }

        int left() {
            int left = told.yards;
            for (int c = 0; c < wet.length; c++) {
                left -= room(c);
            }
            return left;
        }

        int laws() {
            int bits = 0;
            for (int c = 0; c < wet.length; c++) {
                bits += law(c) ? 1 << c : 0;
            }
            return bits;
        }

        int worth() {
            int sum = 0;
            for (int c = 0; c < wet.length; c++) {
                sum += law(c) ? told.worth.get(c) : 0;
            }
            return sum;
        }

        boolean hang(int c, int bits) {
            if (c < 0 || c >= wet.length || !in(c) || bits < 1 || bits >= 1 << pegs.size()) {
                return false;
            }
            World then = new World(this);
            for (int i = 0; i < pegs.size(); i++) {
                if ((bits & 1 << i) != 0) {
                    Peg peg = then.pegs.get(i);
                    if (peg.grip == 0 || peg.holds != -1) {
                        return false;
                    }
                    peg.holds = c;
                }
            }
            int many = then.of(c).size();
            if (many != 1 && many != told.need(c) || then.left() < 0) {
                return false;
            }
            pegs = then.pegs;
            return true;
        }

        boolean take(int c) {
            if (c < 0 || c >= wet.length || in(c)) {
                return false;
            }
            for (Peg peg : of(c)) {
                peg.holds = -1;
            }
            return true;
        }

        int wash(int c) {
            if (c < 0 || c >= wet.length || !in(c)) {
                return -1;
            }
            int had = stains[c];
            stains[c] = 0;
            wet[c] = 9;
            return had;
        }

        int buy(int grip) {
            if (grip < 1 || grip > 9 || pegs.size() == 8) {
                return -1;
            }
            pegs.add(new Peg(grip));
            return pegs.size() - 1;
        }

        Set<Integer> hour(int gust) {
            Set<Integer> fell = new HashSet<>();
            int wind = told.wind(hour) + gust;
            for (int c = 0; c < wet.length; c++) {
                if (in(c)) {
                    continue;
                }
                int pull = told.pull(c, wet[c], wind);
                int grips = 0;
                for (Peg peg : of(c)) {
                    grips += peg.grip;
                }
                if (pull > grips) {
                    for (Peg peg : of(c)) {
                        peg.grip--;
                        peg.holds = -1;
                    }
                    fell.add(c);
                } else if (2 * pull > grips) {
                    for (Peg peg : of(c)) {
                        peg.grip--;
                        if (peg.grip == 0) {
                            peg.holds = -1;
                        }
                    }
                    if (in(c)) {
                        fell.add(c);
                    }
                }
                if (fell.contains(c)) {
                    wet[c] = 9;
                    stains[c] = Math.min(9, stains[c] + 1);
                }
            }
            for (int c = 0; c < wet.length; c++) {
                if (!in(c)) {
                    wet[c] = told.dried(c, wet[c], wind);
                }
            }
            hour++;
            return fell;
        }
    }

    static final class Model {
        StringBuilder tape = new StringBuilder();
        Told told = new Told();
        World world = new World(told);
        List<Object[]> day = new ArrayList<>();
        List<int[]> felt = new ArrayList<>();
        Deque<World> undo = new ArrayDeque<>();
        Map<Integer, Object[]> marks = new HashMap<>();

        // -- reading --
        List<Token> tokens;
        int at;

        static List<Token> split(String text) {
            List<Token> list = new ArrayList<>();
            int i = 0;
            while (i < text.length()) {
                char c = text.charAt(i);
                int j = i + 1;
                if (c == ' ' || c == '\n') {
                    i++;
                    continue;
                }
                if (Character.isLowerCase(c)) {
                    while (j < text.length() && Character.isLowerCase(text.charAt(j))) {
                        j++;
                    }
                    list.add(new Token(text.substring(i, j), i, j - i > 8 ? 'b' : 'w'));
                } else if (Character.isDigit(c)) {
                    while (j < text.length() && Character.isDigit(text.charAt(j))) {
                        j++;
                    }
                    list.add(new Token(text.substring(i, j), i, j - i > 4 ? 'b' : 'n'));
                } else {
                    list.add(new Token(text.substring(i, j), i, "()<=+-*;".indexOf(c) < 0 ? 'b' : 's'));
                }
                i = j;
            }
            list.add(new Token("", text.length(), 'e'));
            return list;
        }

        Token here() {
            return tokens.get(at);
        }

        Token word(List<String> allowed) {
            Token t = here();
            if (t.sort != 'w' || !allowed.contains(t.text)) {
                throw new Fault(1, t.place);
            }
            at++;
            return t;
        }

        void sign(String sign) {
            if (!here().is(sign)) {
                throw new Fault(1, here().place);
            }
            at++;
        }

        int number(int least, int most) {
            Token t = here();
            if (t.sort != 'n') {
                throw new Fault(1, t.place);
            }
            int value = Integer.parseInt(t.text);
            if (value < least || value > most) {
                throw new Fault(4, t.place);
            }
            at++;
            return value;
        }

        static final Set<String> RESERVED = new HashSet<>(Arrays.asList(
                "cloth,wide,weight,worth,pegs,winds,yards,gusts,clash,pulls,dries,hang,take,wash,buy,hour,plain,sheet,flag,wool,not,and,or"
                        .split(",")));

        String name() {
            Token t = here();
            if (t.sort != 'w' || RESERVED.contains(t.text)) {
                throw new Fault(1, t.place);
            }
            at++;
            return t.text;
        }

        int known(Told line) {
            int place = here().place;
            int c = line.names.indexOf(name());
            if (c < 0) {
                throw new Fault(2, place);
            }
            return c;
        }

        List<Integer> numbers(int least, int most, int many) {
            List<Integer> list = new ArrayList<>();
            do {
                int place = here().place;
                int value = number(least, most);
                if (list.size() == many) {
                    throw new Fault(5, place);
                }
                list.add(value);
            } while (here().sort == 'n');
            return list;
        }

        Told parseLine() {
            Told line = new Told();
            Set<String> once = new HashSet<>();
            while (here().sort != 'e') {
                Token t = word(List.of("cloth", "pegs", "winds", "yards", "gusts", "clash", "pulls", "dries"));
                if (!t.is("cloth") && !t.is("clash") && !once.add(t.text)) {
                    throw new Fault(3, t.place);
                }
                switch (t.text) {
                    case "cloth" -> {
                        if (line.names.size() == 6) {
                            throw new Fault(5, t.place);
                        }
                        int place = here().place;
                        String name = name();
                        if (line.names.contains(name)) {
                            throw new Fault(3, place);
                        }
                        String kind = word(List.of("plain", "sheet", "flag", "wool")).text;
                        word(List.of("wide"));
                        line.wide.add(number(1, 20));
                        word(List.of("weight"));
                        line.weight.add(number(0, 20));
                        word(List.of("worth"));
                        line.worth.add(number(0, 99));
                        line.names.add(name);
                        line.kinds.add(kind);
                    }
                    case "pegs" -> line.pegs = numbers(1, 9, 8);
                    case "winds" -> line.winds = numbers(0, 9, 12);
                    case "yards" -> line.yards = number(1, 60);
                    case "gusts" -> line.gusts = number(0, 10);
                    case "clash" -> {
                        int one = known(line);
                        int place = here().place;
                        int other = known(line);
                        if (one == other || line.clashes.contains(Set.of(one, other))) {
                            throw new Fault(3, place);
                        }
                        line.clashes.add(Set.of(one, other));
                    }
                    case "pulls" -> line.pulls = tests(0);
                    default -> line.dries = tests(0);
                }
                sign(";");
            }
            return line;
        }

        List<Object[]> parseDay() {
            List<Object[]> list = new ArrayList<>();
            while (here().sort != 'e') {
                Token t = word(List.of("hang", "take", "wash", "buy", "hour"));
                if (list.size() == 30) {
                    throw new Fault(5, t.place);
                }
                int c = -1;
                int more = 0;
                if (!t.is("buy") && !t.is("hour")) {
                    c = known(told);
                }
                if (t.is("hang")) {
                    int many = 0;
                    do {
                        int place = here().place;
                        int peg = number(0, 7);
                        if ((more & 1 << peg) != 0) {
                            throw new Fault(3, place);
                        }
                        if (++many > 4) {
                            throw new Fault(5, place);
                        }
                        more |= 1 << peg;
                    } while (here().sort == 'n');
                }
                if (t.is("buy")) {
                    more = number(1, 9);
                }
                sign(";");
                list.add(new Object[] {t.text, c, more});
            }
            return list;
        }

        static int yes(boolean b) {
            return b ? 1 : 0;
        }

        Fact tests(int within) {
            Fact left = test(within);
            while (here().is("and") || here().is("or")) {
                boolean and = tokens.get(at++).is("and");
                Fact a = left;
                Fact b = test(within);
                left = and ? (w, m, s) -> yes(a.of(w, m, s) != 0 & b.of(w, m, s) != 0)
                        : (w, m, s) -> yes(a.of(w, m, s) != 0 | b.of(w, m, s) != 0);
            }
            return left;
        }

        Fact test(int within) {
            Fact a = sum(within);
            if (here().is("<")) {
                at++;
                Fact b = sum(within);
                return (w, m, s) -> yes(a.of(w, m, s) < b.of(w, m, s));
            }
            if (here().is("=")) {
                at++;
                Fact b = sum(within);
                return (w, m, s) -> yes(a.of(w, m, s) == b.of(w, m, s));
            }
            return a;
        }

        Fact sum(int within) {
            Fact left = product(within);
            while (here().is("+") || here().is("-")) {
                int factor = tokens.get(at++).is("+") ? 1 : -1;
                Fact a = left;
                Fact b = product(within);
                left = (w, m, s) -> a.of(w, m, s) + factor * b.of(w, m, s);
            }
            return left;
        }

        Fact product(int within) {
            Fact left = part(within);
            while (here().is("*")) {
                at++;
                Fact a = left;
                Fact b = part(within);
                left = (w, m, s) -> a.of(w, m, s) * b.of(w, m, s);
            }
            return left;
        }

        Fact part(int within) {
            Token t = here();
            boolean starts = t.sort == 'n' || t.is("(") || t.is("not") || t.is("wind") || t.is("mass") || t.is("size");
            if (!starts) {
                throw new Fault(1, t.place);
            }
            if (within == 5) {
                throw new Fault(5, t.place);
            }
            at++;
            switch (t.text) {
                case "wind":
                    return (w, m, s) -> w;
                case "mass":
                    return (w, m, s) -> m;
                case "size":
                    return (w, m, s) -> s;
                case "not":
                    Fact inner = part(within + 1);
                    return (w, m, s) -> yes(inner.of(w, m, s) == 0);
                case "(":
                    Fact whole = tests(within + 1);
                    sign(")");
                    return whole;
                default:
                    int value = Integer.parseInt(t.text);
                    return (w, m, s) -> value;
            }
        }

        // -- the face --
        boolean has(int c) {
            return c >= 0 && c < told.names.size();
        }

        int feed(long a, long b, long c) {
            for (long eight : new long[] {a, b, c}) {
                for (int i = 7; i >= 0; i--) {
                    int sign = (int) (eight >> 8 * i) & 0xff;
                    if ((sign == 10 || sign > 31 && sign < 127) && tape.length() < 1000) {
                        tape.append((char) sign);
                    }
                }
            }
            return tape.length();
        }

        int line() {
            tokens = split(tape.toString());
            tape.setLength(0);
            at = 0;
            try {
                told = parseLine();
            } catch (Fault fault) {
                return fault.code;
            }
            world = new World(told);
            day = new ArrayList<>();
            felt = new ArrayList<>();
            undo.clear();
            marks.clear();
            return 0;
        }

        int day() {
            tokens = split(tape.toString());
            tape.setLength(0);
            at = 0;
            try {
                day = parseDay();
            } catch (Fault fault) {
                return fault.code;
            }
            return 0;
        }

        int cloth(int c, int what) {
            if (!has(c) || what < 0 || what > 7) {
                return -1;
            }
            return new int[] {
                List.of("plain", "sheet", "flag", "wool").indexOf(told.kinds.get(c)), world.wet[c], world.stains[c],
                world.bits(c), yes(world.law(c)), yes(world.turned(c)), world.room(c),
                told.pull(c, world.wet[c], told.wind(world.hour))}[what];
        }

        int peg(int p, int what) {
            if (p < 0 || p >= world.pegs.size() || what < 0 || what > 1) {
                return -2;
            }
            return what == 0 ? world.pegs.get(p).grip : world.pegs.get(p).holds;
        }

        int free() {
            int bits = 0;
            for (int i = 0; i < world.pegs.size(); i++) {
                Peg peg = world.pegs.get(i);
                bits += peg.holds == -1 && peg.grip != 0 ? 1 << i : 0;
            }
            return bits;
        }

        void keep(World before) {
            undo.addLast(before);
            if (undo.size() > 16) {
                undo.removeFirst();
            }
        }

        int hang(int c, int bits) {
            World before = new World(world);
            if (!world.hang(c, bits)) {
                return -1;
            }
            keep(before);
            return world.left();
        }

        int take(int c) {
            World before = new World(world);
            if (!world.take(c)) {
                return 0;
            }
            keep(before);
            return 1;
        }

        int wash(int c) {
            World before = new World(world);
            int had = world.wash(c);
            if (had >= 0) {
                keep(before);
            }
            return had;
        }

        int buy(int grip) {
            World before = new World(world);
            int p = world.buy(grip);
            if (p >= 0) {
                keep(before);
            }
            return p;
        }

        int hour() {
            keep(new World(world));
            return world.hour(0).size();
        }

        int undo() {
            if (undo.isEmpty()) {
                return 0;
            }
            world = undo.removeLast();
            return 1;
        }

        int judged(int what) {
            if (what < 0 || what > 2) {
                return -2;
            }
            World w = new World(told);
            int refused = -1;
            int fall = -1;
            for (int i = 0; i < day.size(); i++) {
                int c = (Integer) day.get(i)[1];
                int more = (Integer) day.get(i)[2];
                boolean can = true;
                switch ((String) day.get(i)[0]) {
                    case "hang" -> can = w.hang(c, more);
                    case "take" -> can = w.take(c);
                    case "wash" -> can = w.wash(c) >= 0;
                    case "buy" -> can = w.buy(more) >= 0;
                    default -> {
                        if (!w.hour(0).isEmpty() && fall < 0) {
                            fall = i;
                        }
                    }
                }
                if (!can && refused < 0) {
                    refused = i;
                }
            }
            return what == 0 ? refused : what == 1 ? fall : w.worth();
        }

        int holds(int c) {
            if (!has(c) || world.in(c)) {
                return -1;
            }
            World w = new World(world);
            for (int h = 1; h <= 40; h++) {
                if (w.hour(0).contains(c)) {
                    return h;
                }
            }
            return -1;
        }

        int clashing(int set) {
            int n = 0;
            for (Set<Integer> pair : told.clashes) {
                boolean all = true;
                for (int c : pair) {
                    all &= (set & 1 << c) != 0;
                }
                n += all ? 1 : 0;
            }
            return n;
        }

        int mend(int what) {
            if (what != 0 && what != 1) {
                return -1;
            }
            int best = -1;
            int least = 0;
            for (int set = 63; set >= 0; set--) {
                if ((set & world.laws()) == set && clashing(world.laws() - set) == 0) {
                    int sum = 0;
                    for (int c = 0; c < told.names.size(); c++) {
                        sum += (set & 1 << c) != 0 ? told.worth.get(c) : 0;
                    }
                    if (best < 0 || sum <= least) {
                        best = set;
                        least = sum;
                    }
                }
            }
            return what == 0 ? least : best;
        }

        // FILL by trying all rows, in their order.
        int fillWorth;
        int[] fillRow;
        int[] tries;
        int[] mostPull;

        void fillFrom(int c, int used, int yards, int worth) {
            if (c == told.names.size()) {
                if (worth > fillWorth) {
                    fillWorth = worth;
                    fillRow = tries.clone();
                }
                return;
            }
            if (world.stains[c] < 3 && told.wide.get(c) <= yards) {
                for (int bits = 1; bits < 1 << world.pegs.size(); bits++) {
                    if ((bits & used) == 0 && Integer.bitCount(bits) == told.need(c) && strong(bits, mostPull[c])) {
                        tries[c] = bits;
                        fillFrom(c + 1, used | bits, yards - told.wide.get(c), worth + told.worth.get(c));
                    }
                }
            }
            tries[c] = 0;
            fillFrom(c + 1, used, yards, worth);
        }

        boolean strong(int bits, int pull) {
            int sum = 0;
            for (int i = 0; i < world.pegs.size(); i++) {
                if ((bits & 1 << i) != 0) {
                    if (world.pegs.get(i).grip == 0) {
                        return false;
                    }
                    sum += world.pegs.get(i).grip;
                }
            }
            return sum >= pull;
        }

        int fill(int hours, int c) {
            if (hours < 1 || hours > 6 || c != -1 && !has(c)) {
                return -2;
            }
            int n = told.names.size();
            mostPull = new int[n];
            for (int i = 0; i < n; i++) {
                int wet = world.wet[i];
                for (int h = 0; h < hours; h++) {
                    int wind = told.wind(world.hour + h);
                    mostPull[i] = Math.max(mostPull[i], told.pull(i, wet, wind));
                    wet = told.dried(i, wet, wind);
                }
            }
            fillWorth = -1;
            tries = new int[n];
            fillFrom(0, 0, told.yards, 0);
            return c == -1 ? fillWorth : fillRow[c];
        }

        long oddsFrom(World w, int c, int hours) {
            if (hours == 0) {
                return 1;
            }
            long sum = 0;
            for (int gusty = 0; gusty < 2; gusty++) {
                World then = new World(w);
                long weight = gusty == 1 ? told.gusts : 10 - told.gusts;
                if (weight != 0 && !then.hour(3 * gusty).contains(c)) {
                    sum += weight * oddsFrom(then, c, hours - 1);
                }
            }
            return sum;
        }

        int odds(int c, int hours) {
            if (!has(c) || world.in(c) || hours < 1 || hours > 8) {
                return -1;
            }
            long all = 1;
            for (int i = 0; i < hours; i++) {
                all *= 10;
            }
            return (int) (oddsFrom(world, c, hours) * 1000000 / all);
        }

        int dryBest;
        List<Integer> dryOrder;

        void dryFrom(List<Integer> left, List<Integer> order, int latest) {
            if (left.isEmpty() && latest < dryBest) {
                dryBest = latest;
                dryOrder = new ArrayList<>(order);
            }
            for (int i = 0; i < left.size(); i++) {
                List<Integer> others = new ArrayList<>(left);
                int c = others.remove(i);
                int wet = 9;
                int h = order.size();
                while (wet > 0 && h < 100) {
                    wet = told.dried(c, wet, told.wind(world.hour + h));
                    h++;
                }
                if (wet == 0 && h <= 99) {
                    order.add(c);
                    dryFrom(others, order, Math.max(latest, h));
                    order.remove(order.size() - 1);
                }
            }
        }

        int dry(int what) {
            List<Integer> dirty = new ArrayList<>();
            for (int c = 0; c < told.names.size(); c++) {
                if (world.in(c) && world.stains[c] > 0) {
                    dirty.add(c);
                }
            }
            dryBest = Integer.MAX_VALUE;
            dryFrom(dirty, new ArrayList<>(), 0);
            if (dryBest == Integer.MAX_VALUE) {
                return -1;
            }
            return what == 0 ? dryBest : what > 0 && what <= dryOrder.size() ? dryOrder.get(what - 1) : -1;
        }

        int feel(int c, int hours, int wet) {
            if (!has(c) || hours < 0 || hours > 12 || wet < 0 || wet > 9 || felt.size() == 8) {
                return 0;
            }
            felt.add(new int[] {c, hours, wet});
            return 1;
        }

        int wetBehind(int c, int start, int hours) {
            int wet = 9;
            for (int h = start; h < start + hours; h++) {
                wet = told.dried(c, wet, told.wind(h));
            }
            return wet;
        }

        int starts() {
            int bits = 0;
            for (int s = 0; s < told.winds.size(); s++) {
                boolean so = true;
                for (int[] f : felt) {
                    so &= wetBehind(f[0], s, f[1]) == f[2];
                }
                bits += so ? 1 << s : 0;
            }
            return bits;
        }

        int ask(int c) {
            if (!has(c)) {
                return -1;
            }
            int bits = starts();
            int[] most = new int[13];
            for (int h = 0; h <= 12; h++) {
                List<Integer> wets = new ArrayList<>();
                for (int s = 0; s < told.winds.size(); s++) {
                    if ((bits & 1 << s) != 0) {
                        wets.add(wetBehind(c, s, h));
                    }
                }
                for (int wet : wets) {
                    most[h] = Math.max(most[h], Collections.frequency(wets, wet));
                }
            }
            int best = 0;
            for (int h = 1; h <= 12; h++) {
                best = most[h] < most[best] ? h : best;
            }
            return most[best] < Integer.bitCount(bits) ? best : -1;
        }

        int change(int hours) {
            if (hours < 1 || hours > 20) {
                return -1;
            }
            int best = -1;
            int most = 0;
            for (int p = -1; p < world.pegs.size(); p++) {
                World w = new World(world);
                if (p >= 0) {
                    w.pegs.get(p).grip = 9;
                }
                for (int h = 0; h < hours; h++) {
                    w.hour(0);
                }
                if (p < 0 || w.worth() > most) {
                    best = p;
                    most = w.worth();
                }
            }
            return best;
        }

        int rests(int one, int other, int third, int what) {
            int[] worth = {one, other, third};
            for (int w : worth) {
                if (w < 0 || w > 9) {
                    throw new NoSuchElementException();
                }
            }
            List<Integer> list = new ArrayList<>();
            for (int g = 0; g < 3; g++) {
                for (int t = 0; t < 3; t++) {
                    int gets = g == t ? 0 : worth[t];
                    int thiefCould = 0;
                    for (int k = 0; k < 3; k++) {
                        thiefCould = Math.max(thiefCould, k == g ? 0 : worth[k]);
                    }
                    // The guard can always sit where the thief is: so he loses nothing at rest.
                    if (gets == 0 && thiefCould == 0) {
                        list.add(3 * g + t);
                    }
                }
            }
            if (what == -1) {
                return list.size();
            }
            if (what < 0 || what >= list.size()) {
                throw new NoSuchElementException();
            }
            return list.get(what);
        }

        long g;

        int draw(int m) {
            g = g * 1103515245L + 12345L & 0x7fffffffL;
            return (int) ((g >> 16) % m);
        }

        int decades(int seed, int hours, int what) {
            if (seed < 0 || seed > 9999 || hours < 1 || hours > 60 || what < 0 || what > 2) {
                return -1;
            }
            g = seed;
            World w = new World(world);
            int laws = 0;
            int falls = 0;
            for (int h = 0; h < hours; h++) {
                if (!told.names.isEmpty()) {
                    int c = draw(told.names.size());
                    if (!w.in(c)) {
                        if (draw(4) == 0) {
                            w.take(c);
                        }
                    } else {
                        int bits = 0;
                        for (int i = 0; i < w.pegs.size(); i++) {
                            if (Integer.bitCount(bits) < told.need(c) && w.pegs.get(i).holds == -1
                                    && w.pegs.get(i).grip > 0) {
                                bits |= 1 << i;
                            }
                        }
                        if (Integer.bitCount(bits) == told.need(c)) {
                            w.hang(c, bits);
                        }
                    }
                }
                boolean gusty = draw(10) < told.gusts;
                falls += w.hour(gusty ? 3 : 0).size();
                laws += Integer.bitCount(w.laws());
            }
            int grips = 0;
            for (Peg peg : w.pegs) {
                grips += peg.grip;
            }
            return what == 0 ? laws : what == 1 ? falls : grips;
        }

        int mark(int mark, boolean back) {
            if (mark < 0 || mark > 3 || back && !marks.containsKey(mark)) {
                return 0;
            }
            if (!back) {
                marks.put(mark, new Object[] {new World(world), new ArrayList<>(felt)});
                return 1;
            }
            world = new World((World) marks.get(mark)[0]);
            felt = new ArrayList<>();
            for (Object f : (List<?>) marks.get(mark)[1]) {
                felt.add((int[]) f);
            }
            undo.clear();
            return 1;
        }

        int count(int what) {
            if (what < 0 || what > 12) {
                return -1;
            }
            int turned = 0;
            for (int c = 0; c < told.names.size(); c++) {
                turned += world.turned(c) ? 1 << c : 0;
            }
            return new int[] {told.names.size(), world.pegs.size(), told.yards, world.left(), world.hour,
                told.wind(world.hour), world.worth(), turned, told.clashes.size(), day.size(), felt.size(),
                undo.size(), tape.length()}[what];
        }
    }

    // ---- the runs ----

    static Random RANDOM = new Random(20261118);
    static int wrong = 0;
    static long calls = 0;
    static final List<String> log = new ArrayList<>();
    static final Map<String, Integer> answers = new HashMap<>();

    static int pick(int least, int most) {
        return least + RANDOM.nextInt(most - least + 1);
    }

    static boolean chance(int ofHundred) {
        return RANDOM.nextInt(100) < ofHundred;
    }

    static String any(String... of) {
        return of[RANDOM.nextInt(of.length)];
    }

    static void same(String call, long got, long want) {
        calls++;
        log.add(call + " = " + want);
        String kind = call.substring(0, call.indexOf('(')) + (want < 0 ? " none" : want == 0 ? " zero" : " some");
        answers.merge(kind, 1, Integer::sum);
        if (got != want) {
            wrong++;
            if (wrong < 20) {
                System.out.println(call + " answered " + got + ", the model " + want);
                if (wrong == 1) {
                    for (String s : log) {
                        System.out.println("    " + s);
                    }
                }
            }
        }
    }

    static String expression(int within) {
        StringBuilder s = new StringBuilder(part(within));
        int more = chance(40) ? 0 : pick(1, 3);
        boolean compared = false;
        for (int i = 0; i < more; i++) {
            String joiner = any("+", "-", "*", "+", "-", "*", "<", "=", "and", "or");
            if (joiner.equals("<") || joiner.equals("=")) {
                if (compared && chance(95)) {
                    joiner = "+";
                }
                compared = true;
            } else if (joiner.equals("and") || joiner.equals("or")) {
                compared = false;
            }
            s.append(' ').append(joiner).append(' ').append(part(within));
        }
        return s.toString();
    }

    static String part(int within) {
        int r = pick(0, 9);
        if (r < 4 || within > 4) {
            return any("wind", "wind", "mass", "size");
        }
        if (r < 7) {
            return "" + (chance(90) ? pick(0, 9) : pick(0, 9999));
        }
        return r < 8 ? "not " + part(within + 1) : "( " + expression(within + 1) + " )";
    }

    static final String[] NAMES = {"a", "bb", "law", "wind", "mass", "size", "eightlet", "poor", "z"};

    static String name() {
        return chance(98) ? any(NAMES) : any("cloth", "flag", "not", "ninelette", "or");
    }

    static String lineText(List<String> names) {
        List<String> parts = new ArrayList<>();
        int n = chance(2) ? 7 : pick(chance(5) ? 0 : 2, 6);
        List<String> pool = new ArrayList<>(Arrays.asList(NAMES));
        Collections.shuffle(pool, RANDOM);
        for (int i = 0; i < n; i++) {
            String name = chance(99) ? pool.get(i) : name();
            names.add(name);
            int wide = chance(99) ? pick(1, chance(50) ? 6 : 20) : pick(0, 30);
            int weight = chance(99) ? pick(0, chance(50) ? 5 : 20) : pick(0, 30);
            int worth = chance(99) ? (chance(50) ? pick(0, 3) : pick(0, 99)) : 100;
            parts.add("cloth " + name + " " + any("plain", "sheet", "flag", "wool", "plain", "wool") + " wide " + wide
                    + " weight " + weight + " worth " + worth + " ;");
        }
        List<String> tail = new ArrayList<>();
        if (chance(95)) {
            tail.add("pegs" + row(chance(98) ? pick(1, 8) : 9, 1, chance(98) ? 9 : 11) + " ;");
        }
        if (chance(80)) {
            tail.add("winds" + row(chance(98) ? pick(1, 12) : 13, 0, chance(98) ? 9 : 11) + " ;");
        }
        if (chance(70)) {
            tail.add("yards " + (chance(98) ? pick(chance(50) ? 1 : 30, 60) : 61) + " ;");
        }
        if (chance(60)) {
            tail.add("gusts " + (chance(98) ? pick(0, 10) : 11) + " ;");
        }
        if (chance(50)) {
            tail.add("pulls " + expression(0) + " ;");
        }
        if (chance(50)) {
            tail.add("dries " + expression(0) + " ;");
        }
        for (int i = pick(0, 5); i > 0 && n > 1; i--) {
            int one = pick(0, n - 1);
            int other = chance(97) ? (one + pick(1, n - 1)) % n : one;
            String pair = "clash " + names.get(one) + " " + names.get(other) + " ;";
            String turned = "clash " + names.get(other) + " " + names.get(one) + " ;";
            if (!tail.contains(pair) && !tail.contains(turned) || chance(5)) {
                tail.add(pair);
            }
        }
        Collections.shuffle(tail, RANDOM);
        if (chance(2) && !tail.isEmpty()) {
            tail.add(tail.get(0));
        }
        if (chance(95)) {
            parts.addAll(tail);
        } else {
            parts.addAll(0, tail);
        }
        return spoil(parts);
    }

    static String row(int many, int least, int most) {
        StringBuilder s = new StringBuilder();
        for (int i = 0; i < many; i++) {
            s.append(' ').append(pick(least, most));
        }
        return s.toString();
    }

    static String dayText(List<String> names) {
        List<String> parts = new ArrayList<>();
        int n = chance(3) ? 31 : pick(0, chance(30) ? 30 : 12);
        for (int i = 0; i < n; i++) {
            String name = names.isEmpty() || chance(1) ? name() : names.get(pick(0, names.size() - 1));
            switch (pick(0, 7)) {
                case 0, 1, 2 -> {
                    List<Integer> pegs = new ArrayList<>(List.of(0, 1, 2, 3, 4, 5, 6, 7));
                    Collections.shuffle(pegs, RANDOM);
                    int many = chance(98) ? any("1", "2", "2", "2", "4", "4", "3").charAt(0) - '0' : 5;
                    StringBuilder s = new StringBuilder();
                    for (int k = 0; k < many; k++) {
                        s.append(' ').append(chance(99) ? pegs.get(k) : pick(0, 9));
                    }
                    parts.add("hang " + name + s + " ;");
                }
                case 3 -> parts.add("take " + name + " ;");
                case 4 -> parts.add("wash " + name + " ;");
                case 5 -> parts.add("buy " + (chance(98) ? pick(1, 9) : 10) + " ;");
                default -> parts.add("hour ;");
            }
        }
        return spoil(parts);
    }

    /** Mostly a text as it should be; else some of its tokens dropped, doubled or changed. */
    static String spoil(List<String> parts) {
        List<String> tokens = new ArrayList<>();
        for (String part : parts) {
            tokens.addAll(Arrays.asList(part.split(" ")));
        }
        if (chance(25) && !tokens.isEmpty()) {
            int i = RANDOM.nextInt(tokens.size());
            switch (pick(0, 4)) {
                case 0 -> tokens.remove(i);
                case 1 -> tokens.add(i, tokens.get(i));
                case 2 -> tokens.set(i, any("cloth", ";", "12345", "7", "abc", "(", ")", "not", "<", "A", "ninelette", "#",
                        "and", "*", "0", "wide", "hour", "99", "0007"));
                case 3 -> tokens.subList(i, tokens.size()).clear();
                default -> tokens.add(i, any("not not not not not", "( ( ( ( (", "; ;", "not", "-", "(", ")", "~"));
            }
        }
        StringBuilder s = new StringBuilder(chance(10) ? " " : "");
        for (String token : tokens) {
            boolean tight = s.length() > 0 && chance(30) && (!Character.isLetterOrDigit(token.charAt(0))
                    || !Character.isLetterOrDigit(s.charAt(s.length() - 1)));
            if (s.length() > 0 && !tight) {
                s.append(chance(95) ? " " : any("\n", "  ", " \n ", ""));
            }
            s.append(token);
        }
        return s + (chance(20) ? " " : "");
    }

    static void feed(PegLaws x, Model m, String text) {
        for (int i = 0; i < text.length(); i += 24) {
            long[] abc = new long[3];
            for (int k = 0; k < 24; k++) {
                long sign = i + k < text.length() ? text.charAt(i + k) : chance(50) ? 0 : pick(127, 255);
                abc[k / 8] = abc[k / 8] << 8 | sign;
            }
            same("feed(" + abc[0] + ", " + abc[1] + ", " + abc[2] + ")", x.feed(abc[0], abc[1], abc[2]),
                    m.feed(abc[0], abc[1], abc[2]));
        }
        log.add("fed: " + text.replace("\n", "\\n"));
    }

    static int b(boolean b) {
        return b ? 1 : 0;
    }

    static int wild(int least, int most) {
        return chance(95) ? pick(least, most)
                : chance(50) ? pick(least - 2, most + 2) : any("a", "b").equals("a") ? Integer.MIN_VALUE : Integer.MAX_VALUE;
    }

    static int somePegs(Model m) {
        int free = m.free();
        int many = any("1", "2", "2", "2", "4", "4", "3").charAt(0) - '0';
        List<Integer> list = new ArrayList<>();
        for (int i = 0; i < 8; i++) {
            if ((free & 1 << i) != 0) {
                list.add(i);
            }
        }
        Collections.shuffle(list, RANDOM);
        int bits = 0;
        for (int i = 0; i < many && i < list.size(); i++) {
            bits |= 1 << list.get(i);
        }
        return chance(95) ? bits : wild(0, 256);
    }

    static void deed(PegLaws x, Model m, int n) {
        int c = wild(0, Math.max(0, n - 1));
        int k = pick(0, 99);
        if (k < 38) {
            int bits = somePegs(m);
            same("hang(" + c + ", " + bits + ")", x.hang(c, bits), m.hang(c, bits));
        } else if (k < 44) {
            same("take(" + c + ")", b(x.take(c)), m.take(c));
        } else if (k < 52) {
            same("wash(" + c + ")", x.wash(c), m.wash(c));
        } else if (k < 58) {
            int grip = wild(1, 9);
            same("buy(" + grip + ")", x.buy(grip), m.buy(grip));
        } else if (k < 84) {
            same("hour()", x.hour(), m.hour());
        } else if (k < 90) {
            same("undo()", b(x.undo()), m.undo());
        } else if (k < 95) {
            int mark = wild(0, 3);
            boolean back = chance(40);
            same("mark(" + mark + ", " + back + ")", b(x.mark(mark, back)), m.mark(mark, back));
        } else {
            int h = wild(0, 12);
            int start = pick(0, 11);
            int wet = m.has(c) && chance(80) ? m.wetBehind(c, start, Math.max(0, Math.min(12, h))) : wild(0, 9);
            same("feel(" + c + ", " + h + ", " + wet + ")", b(x.feel(c, h, wet)), m.feel(c, h, wet));
        }
    }

    static void look(PegLaws x, Model m, int n) {
        int c = wild(0, Math.max(0, n - 1));
        switch (pick(0, 18)) {
            case 0 -> {
                int what = wild(0, 7);
                same("cloth(" + c + ", " + what + ")", x.cloth(c, what), m.cloth(c, what));
            }
            case 1 -> {
                int p = wild(0, 7);
                int what = wild(0, 1);
                same("peg(" + p + ", " + what + ")", x.peg(p, what), m.peg(p, what));
            }
            case 2 -> same("free()", x.free(), m.free());
            case 3 -> same("laws()", x.laws(), m.world.laws());
            case 4 -> {
                int what = wild(0, 2);
                same("judged(" + what + ")", x.judged(what), m.judged(what));
            }
            case 5 -> same("holds(" + c + ")", x.holds(c), m.holds(c));
            case 6 -> same("clashes()", x.clashes(), m.clashing(m.world.laws()));
            case 7 -> {
                int what = wild(0, 1);
                same("mend(" + what + ")", x.mend(what), m.mend(what));
            }
            case 8 -> {
                int h = wild(1, 6);
                int which = wild(-1, Math.max(0, n - 1));
                same("fill(" + h + ", " + which + ")", x.fill(h, which), m.fill(h, which));
            }
            case 9 -> {
                int h = chance(90) ? wild(1, 5) : wild(1, 8);
                same("odds(" + c + ", " + h + ")", x.odds(c, h), m.odds(c, h));
            }
            case 10, 11 -> {
                int what = wild(0, n);
                same("dry(" + what + ")", x.dry(what), m.dry(what));
            }
            case 12 -> same("starts()", x.starts(), m.starts());
            case 13 -> same("ask(" + c + ")", x.ask(c), m.ask(c));
            case 14 -> {
                int h = wild(1, 20);
                same("change(" + h + ")", x.change(h), m.change(h));
            }
            case 15 -> rest(x, m);
            case 16 -> {
                int seed = wild(0, 9999);
                int h = wild(1, 60);
                int what = wild(0, 2);
                same("decades(" + seed + ", " + h + ", " + what + ")", x.decades(seed, h, what), m.decades(seed, h, what));
            }
            default -> {
                int what = wild(0, 12);
                same("count(" + what + ")", x.count(what), m.count(what));
            }
        }
    }

    static void rest(PegLaws x, Model m) {
        int high = chance(50) ? 1 : 9;
        int one = wild(0, high);
        int other = wild(0, high);
        int third = wild(0, high);
        int what = wild(-1, 3);
        long got = -9;
        long want = -9;
        try {
            got = x.rests(one, other, third, what);
        } catch (NoSuchElementException e) {
            got = -99;
        }
        try {
            want = m.rests(one, other, third, what);
        } catch (NoSuchElementException e) {
            want = -99;
        }
        same("rests(" + one + ", " + other + ", " + third + ", " + what + ")", got, want);
    }

    static void all(PegLaws x, Model m) {
        for (int c = -1; c <= m.told.names.size(); c++) {
            for (int what = -1; what <= 8; what++) {
                same("cloth(" + c + ", " + what + ")", x.cloth(c, what), m.cloth(c, what));
            }
        }
        for (int p = -1; p <= 8; p++) {
            for (int what = -1; what <= 2; what++) {
                same("peg(" + p + ", " + what + ")", x.peg(p, what), m.peg(p, what));
            }
        }
        for (int what = -1; what <= 13; what++) {
            same("count(" + what + ")", x.count(what), m.count(what));
        }
    }

    static void run() {
        log.clear();
        PegLaws x = new PegLaws();
        Model m = new Model();
        List<String> names = new ArrayList<>();
        int texts = pick(0, 3);
        for (int t = 0; t <= texts; t++) {
            int fault = chance(97) ? 1 : 0;
            for (int tries = 0; tries < 5 && fault != 0; tries++) {
                List<String> toldNow = new ArrayList<>();
                feed(x, m, lineText(toldNow));
                fault = m.line();
                same("line()", x.line(), fault);
                if (fault == 0) {
                    names = toldNow;
                }
            }
            if (chance(60)) {
                feed(x, m, dayText(names));
                same("day()", x.day(), m.day());
            }
            for (int i = pick(0, 90); i > 0; i--) {
                if (chance(55)) {
                    deed(x, m, m.told.names.size());
                } else {
                    look(x, m, m.told.names.size());
                }
                if (wrong > 0) {
                    return;
                }
            }
            all(x, m);
        }
    }

    public static void main(String[] args) {
        int runs = args.length > 0 ? Integer.parseInt(args[0]) : 4000;
        if (args.length > 1) {
            RANDOM = new Random(Long.parseLong(args[1]));
        }
        for (int i = 0; i < runs && wrong == 0; i++) {
            run();
        }
        if (args.length > 0) {
            answers.entrySet().stream().sorted(Map.Entry.comparingByKey()).forEach(System.out::println);
        }
        System.out.println(wrong == 0 ? calls + " answers are as the model's" : wrong + " answers are not as the model's");
        if (wrong != 0) {
            System.exit(1);
        }
    }
}
