import java.math.BigInteger;
import java.util.ArrayDeque;
import java.util.ArrayList;
import java.util.Arrays;
import java.util.Deque;
import java.util.HashMap;
import java.util.List;
import java.util.Map;
import java.util.regex.Matcher;
import java.util.regex.Pattern;

/**
 * Compares long runs of calls with a second, slow program that was written from the document alone: it takes the allowed
 * row of the least energy, where SpringPlates looks at forces, and finds the least load by trying all of them in turn.
 * The runs are always the same ones.
 */
public final class ReferenceTest {
    static final int INVALID = -1000001;
    static final int IMPOSSIBLE = -1000002;
    static final int LIMIT = -1000003;
    static final int NONE = -1000004;

    /** What is laid. */
    static final class State {
        int width = 60;
        final List<int[]> springs = new ArrayList<>(); // strength, length
        final List<Integer> loads = new ArrayList<>();
        final List<Integer[]> stops = new ArrayList<>(); // left, right; null: none

        State() {
            springs.add(new int[] {1, 10});
        }

        State copy() {
            State s = new State();
            s.width = width;
            s.springs.clear();
            for (int[] spring : springs) {
                s.springs.add(spring.clone());
            }
            s.loads.addAll(loads);
            for (Integer[] pair : stops) {
                s.stops.add(pair.clone());
            }
            return s;
        }

        int n() {
            return loads.size();
        }

        int low(int i) {
            return stops.get(i)[0] == null ? 0 : stops.get(i)[0];
        }

        int high(int i) {
            return stops.get(i)[1] == null ? width : stops.get(i)[1];
        }

        boolean allowed(long[] up, long den) {
            for (int i = 0; i < n(); i++) {
                if (up[i] < low(i) * den || up[i] > high(i) * den || i > 0 && up[i] < up[i - 1]) {
                    return false;
                }
            }
            return true;
        }

        /** There is an allowed row if one with all plates at stops or walls is. */
        boolean anyRow() {
            for (int i = 0; i < n(); i++) {
                for (int j = i; j < n(); j++) {
                    if (low(i) > high(j)) {
                        return false;
                    }
                }
            }
            return true;
        }

        String key() {
            StringBuilder b = new StringBuilder().append(width).append(loads);
            for (int[] spring : springs) {
                b.append(Arrays.toString(spring));
            }
            for (Integer[] pair : stops) {
                b.append(Arrays.toString(pair));
            }
            return b.toString();
        }
    }

    /** Places over one lower part. */
    record Row(long[] up, long den) {
    }

    record Fraction(long up, long low) {
        static Fraction of(long up, long low) {
            long g = BigInteger.valueOf(up).gcd(BigInteger.valueOf(low)).longValueExact();
            if (low < 0) {
                g = -g;
            }
            return new Fraction(up / g, low / g);
        }

        Fraction plus(Fraction o) {
            return of(Math.addExact(Math.multiplyExact(up, o.low), Math.multiplyExact(o.up, low)),
                    Math.multiplyExact(low, o.low));
        }

        Fraction times(Fraction o) {
            return of(Math.multiplyExact(up, o.up), Math.multiplyExact(low, o.low));
        }

        Fraction negated() {
            return new Fraction(-up, low);
        }

        Fraction inverse() {
            return of(low, up);
        }

        int compareTo(Fraction o) {
            return BigInteger.valueOf(up).multiply(BigInteger.valueOf(o.low))
                    .compareTo(BigInteger.valueOf(o.up).multiply(BigInteger.valueOf(low)));
        }
    }

    static final Map<String, Row> KNOWN = new HashMap<>();

    static Row rest(State s) {
        Row row = KNOWN.get(s.key());
        if (row == null) {
            row = leastEnergy(s);
            KNOWN.put(s.key(), row);
        }
        return row;
    }

    /** Tries all ways to put plates together and to fix what is together at a stop or wall of one of them. */
    static Row leastEnergy(State s) {
        int n = s.n();
        Row best = null;
        BigInteger bestEnergy = null;
        for (int joined = 0; joined < (n == 0 ? 1 : 1 << (n - 1)); joined++) {
            int[] group = new int[n];
            for (int i = 1; i < n; i++) {
                group[i] = group[i - 1] + ((joined >> (i - 1) & 1) == 0 ? 1 : 0);
            }
            int groups = n == 0 ? 0 : group[n - 1] + 1;
            List<List<Integer>> choices = new ArrayList<>();
            for (int g = 0; g < groups; g++) {
                List<Integer> choice = new ArrayList<>();
                choice.add(null);
                for (int i = 0; i < n; i++) {
                    if (group[i] == g) {
                        for (int bound : new int[] {s.low(i), s.high(i)}) {
                            if (!choice.contains(bound)) {
                                choice.add(bound);
                            }
                        }
                    }
                }
                choices.add(choice);
            }
            int[] pick = new int[groups];
            while (true) {
                Row row = solve(s, group, groups, choices, pick);
                if (s.allowed(row.up, row.den)) {
                    BigInteger energy = energy(s, row);
                    if (best == null || energy.multiply(square(best.den)).compareTo(bestEnergy.multiply(square(row.den))) < 0) {
                        best = row;
                        bestEnergy = energy;
                    }
                }
                int g = 0;
                while (g < groups && ++pick[g] == choices.get(g).size()) {
                    pick[g++] = 0;
                }
                if (g == groups) {
                    break;
                }
            }
        }
        return best;
    }

    static BigInteger square(long value) {
        return BigInteger.valueOf(value).pow(2);
    }

    /** Over the square of the row's lower part. */
    static BigInteger energy(State s, Row row) {
        long sum = 0;
        for (int k = 0; k <= s.n(); k++) {
            long stretch = spot(s, row, k) - spot(s, row, k - 1) - s.springs.get(k)[1] * row.den;
            sum = Math.addExact(sum, Math.multiplyExact(s.springs.get(k)[0] * stretch, stretch));
        }
        for (int i = 0; i < s.n(); i++) {
            sum = Math.subtractExact(sum, 2 * s.loads.get(i) * row.up[i] * row.den);
        }
        return BigInteger.valueOf(sum);
    }

    static long spot(State s, Row row, int plate) {
        return plate < 0 ? 0 : plate == s.n() ? s.width * row.den : row.up[plate];
    }

    /** The zero of the energy's slopes, by elimination, for the groups that are not fixed. */
    static Row solve(State s, int[] group, int groups, List<List<Integer>> choices, int[] pick) {
        long[][] m = new long[groups][groups + 1];
        for (int k = 0; k <= s.n(); k++) {
            int strength = s.springs.get(k)[0];
            long length = s.springs.get(k)[1];
            int a = k == 0 ? -1 : group[k - 1];
            int b = k == s.n() ? -1 : group[k];
            if (a == b && a >= 0) {
                continue;
            }
            if (a >= 0) {
                m[a][a] += strength;
                m[a][groups] -= strength * length;
                if (b >= 0) {
                    m[a][b] -= strength;
                } else {
                    m[a][groups] += (long) strength * s.width;
                }
            }
            if (b >= 0) {
                m[b][b] += strength;
                m[b][groups] += strength * length;
                if (a >= 0) {
                    m[b][a] -= strength;
                }
            }
        }
        for (int i = 0; i < s.n(); i++) {
            m[group[i]][groups] += s.loads.get(i);
        }
        for (int g = 0; g < groups; g++) {
            Integer fixed = choices.get(g).get(pick[g]);
            if (fixed != null) {
                Arrays.fill(m[g], 0);
                m[g][g] = 1;
                m[g][groups] = fixed;
            }
        }
        Fraction[] places = eliminate(m, groups);
        long den = 1;
        for (Fraction place : places) {
            den = den / BigInteger.valueOf(den).gcd(BigInteger.valueOf(place.low)).longValue() * place.low;
        }
        long[] up = new long[s.n()];
        for (int i = 0; i < s.n(); i++) {
            up[i] = places[group[i]].up * (den / places[group[i]].low);
        }
        return new Row(up, den);
    }

    static Fraction[] eliminate(long[][] m, int size) {
        Fraction[][] f = new Fraction[size][size + 1];
        for (int i = 0; i < size; i++) {
            for (int j = 0; j <= size; j++) {
                f[i][j] = new Fraction(m[i][j], 1);
            }
        }
        for (int c = 0; c < size; c++) {
            Fraction over = f[c][c].inverse(); // never 0: what is above the diagonal is outweighed by it
            for (int j = c; j <= size; j++) {
                f[c][j] = f[c][j].times(over);
            }
            for (int i = 0; i < size; i++) {
                if (i != c && f[i][c].up != 0) {
                    Fraction factor = f[i][c].negated();
                    for (int j = c; j <= size; j++) {
                        f[i][j] = f[i][j].plus(f[c][j].times(factor));
                    }
                }
            }
        }
        Fraction[] answer = new Fraction[size];
        for (int i = 0; i < size; i++) {
            answer[i] = f[i][size];
        }
        return answer;
    }

    /** The second program. */
    static final class Model {
        State s = new State();
        final Deque<State> past = new ArrayDeque<>();
        String text = "";

        long change(State after, long answer) {
            if (answer > -1000000) {
                past.addLast(s);
                if (past.size() > 4) {
                    past.removeFirst();
                }
                s = after;
            }
            return answer;
        }

        static long width(State s, int w) {
            if (w < 10 || w > 99) {
                return INVALID;
            }
            for (Integer[] pair : s.stops) {
                for (Integer stop : pair) {
                    if (stop != null && stop > w) {
                        return IMPOSSIBLE;
                    }
                }
            }
            int was = s.width;
            s.width = w;
            return was;
        }

        static long plate(State s) {
            if (s.n() == 4) {
                return LIMIT;
            }
            s.springs.add(new int[] {1, 10});
            s.stops.add(new Integer[2]);
            s.loads.add(0);
            return s.n() - 1;
        }

        static long drop(State s, int p) {
            if (p < 0 || p >= s.n()) {
                return INVALID;
            }
            s.springs.remove(p + 1);
            s.stops.remove(p);
            s.loads.remove(p);
            return s.n();
        }

        static long spring(State s, int k, int strength, int length) {
            if (k < 0 || k > s.n() || strength < 1 || strength > 9 || length < 0 || length > 50) {
                return INVALID;
            }
            int[] was = s.springs.set(k, new int[] {strength, length});
            return 100 * was[0] + was[1];
        }

        static long load(State s, int p, int load) {
            if (p < 0 || p >= s.n() || load < -99 || load > 99) {
                return INVALID;
            }
            return s.loads.set(p, load) + 1000;
        }

        static long stop(State s, int p, int side, int place) {
            if (p < 0 || p >= s.n() || side < 0 || side > 1 || place < 0 || place > s.width) {
                return INVALID;
            }
            Integer was = s.stops.get(p)[side];
            s.stops.get(p)[side] = place;
            if (!s.anyRow()) {
                return IMPOSSIBLE;
            }
            return was == null ? -1 : was;
        }

        static long unstop(State s, int p, int side) {
            if (p < 0 || p >= s.n() || side < 0 || side > 1) {
                return INVALID;
            }
            Integer was = s.stops.get(p)[side];
            s.stops.get(p)[side] = null;
            return was == null ? IMPOSSIBLE : was;
        }

        long plateOf(int p, int what) {
            if (p < 0 || p >= s.n() || what < 0 || what > 6) {
                return INVALID;
            }
            if (what == 0) {
                return s.loads.get(p) + 1000;
            }
            if (what <= 2) {
                Integer stop = s.stops.get(p)[what - 1];
                return stop == null ? NONE : stop;
            }
            return s.springs.get(p + (what - 3) / 2)[(what - 3) % 2];
        }

        static long part(long up, long den, int part, long shift) {
            Fraction f = Fraction.of(up, den);
            return part == 0 ? f.up + shift : f.low;
        }

        long place(int p, int part) {
            if (p < 0 || p >= s.n() || part < 0 || part > 2) {
                return INVALID;
            }
            Row row = rest(s);
            return part == 2 ? row.up[p] / row.den : part(row.up[p], row.den, part, 0);
        }

        /** Over the row's lower part. */
        long tension(Row row, int k) {
            return s.springs.get(k)[0] * (spot(s, row, k) - spot(s, row, k - 1) - s.springs.get(k)[1] * row.den);
        }

        long pull(int k, int part) {
            if (k < 0 || k > s.n() || part < 0 || part > 1) {
                return INVALID;
            }
            Row row = rest(s);
            return part(tension(row, k), row.den, part, 1000000000);
        }

        long pushUp(int p) {
            Row row = rest(s);
            return tension(row, p) - tension(row, p + 1) - s.loads.get(p) * row.den;
        }

        long push(int p, int part) {
            if (p < 0 || p >= s.n() || part < 0 || part > 1) {
                return INVALID;
            }
            return part(pushUp(p), rest(s).den, part, 1000000000);
        }

        long plates(int what) {
            if (what < 0 || what > 4) {
                return INVALID;
            }
            Row row = rest(s);
            long set = 0;
            for (int p = 0; p < s.n(); p++) {
                Integer[] stops = s.stops.get(p);
                boolean in = switch (what) {
                    case 0, 1 -> stops[what] != null && row.up[p] == stops[what] * row.den;
                    case 2 -> p < s.n() - 1 && row.up[p] == row.up[p + 1];
                    case 3 -> row.up[p] == 0 || row.up[p] == s.width * row.den;
                    default -> pushUp(p) != 0;
                };
                set += in ? 1L << p : 0;
            }
            return set;
        }

        Row restWithout(int p, int side) {
            State t = s.copy();
            t.stops.get(p)[side] = null;
            return rest(t);
        }

        long without(int p, int side, int other, int part) {
            if (p < 0 || p >= s.n() || side < 0 || side > 1 || other < 0 || other >= s.n() || part < 0 || part > 1) {
                return INVALID;
            }
            if (s.stops.get(p)[side] == null) {
                return IMPOSSIBLE;
            }
            Row row = restWithout(p, side);
            return part(row.up[other], row.den, part, 0);
        }

        long leastLoad(int p, int place) {
            if (p < 0 || p >= s.n() || place < 0 || place > 99) {
                return INVALID;
            }
            State t = s.copy();
            for (int load = -99; load <= 99; load++) {
                t.loads.set(p, load);
                Row row = rest(t);
                if (row.up[p] >= place * row.den) {
                    return load + 1000;
                }
            }
            return NONE;
        }

        long hardest(int what) {
            if (what < 0 || what > 3) {
                return INVALID;
            }
            long answer = NONE;
            Fraction most = new Fraction(-1, 1);
            Row row = rest(s);
            for (int p = 0; p < s.n(); p++) {
                for (int side = 0; side < 2; side++) {
                    if (s.stops.get(p)[side] == null) {
                        continue;
                    }
                    Row other = restWithout(p, side);
                    Fraction sum = new Fraction(0, 1);
                    for (int i = 0; i < s.n(); i++) {
                        Fraction move = Fraction.of(other.up[i], other.den).plus(Fraction.of(-row.up[i], row.den));
                        sum = sum.plus(move.up < 0 ? move.negated() : move);
                    }
                    if (sum.compareTo(most) > 0) {
                        most = sum;
                        answer = what == 0 ? p : what == 1 ? side : what == 2 ? sum.up : sum.low;
                    }
                }
            }
            return answer;
        }

        long count(int what) {
            int stops = 0;
            int loads = 1000;
            for (int p = 0; p < s.n(); p++) {
                stops += (s.stops.get(p)[0] == null ? 0 : 1) + (s.stops.get(p)[1] == null ? 0 : 1);
                loads += s.loads.get(p);
            }
            int[] all = {s.n(), s.width, stops, loads, past.size(), text.length()};
            return what < 0 || what > 5 ? INVALID : all[what];
        }

        long undo() {
            if (past.isEmpty()) {
                return IMPOSSIBLE;
            }
            s = past.removeLast();
            return past.size();
        }

        long type(int c) {
            if (c < 32 || c > 126) {
                return INVALID;
            }
            if (text.length() == 60) {
                return LIMIT;
            }
            text += (char) c;
            return text.length();
        }

        static final Pattern FORM = Pattern.compile(
                "(w)(\\d\\d?);|(p);|(k)(\\d\\d?),(\\d\\d?),(\\d\\d?);|(f)(\\d\\d?),(-?\\d\\d?);|([lr])(\\d\\d?),(\\d\\d?);|(x)(\\d\\d?);");

        /** Position, reason and cause of the fault, or null; what is done is done to t; done[0] counts. */
        long[] fault(State t, int[] done) {
            int at = 0;
            while (at < text.length()) {
                Matcher m = FORM.matcher(text).region(at, text.length());
                if (!m.lookingAt()) {
                    return new long[] {at, 1, breakOff(text.substring(at))};
                }
                String letter = "";
                List<Integer> numbers = new ArrayList<>();
                for (int g = 1; g <= m.groupCount(); g++) {
                    if (m.group(g) != null && letter.isEmpty()) {
                        letter = m.group(g);
                    } else if (m.group(g) != null) {
                        numbers.add(Integer.valueOf(m.group(g)));
                    }
                }
                int wrong = wrongNumber(t, letter, numbers);
                if (wrong >= 0) {
                    return new long[] {at, 2, wrong};
                }
                if (act(t, letter, numbers) < -1000000) {
                    return new long[] {at, 3, NONE};
                }
                at = m.end();
                done[0]++;
            }
            return null;
        }

        static int breakOff(String setting) {
            for (int k = 0; k < setting.length(); k++) {
                Matcher m = FORM.matcher(setting.substring(0, k + 1));
                if (!m.matches() && !m.hitEnd()) {
                    return k;
                }
            }
            return setting.length();
        }

        static int wrongNumber(State t, String letter, List<Integer> numbers) {
            int[][] ranges = switch (letter) {
                case "w" -> new int[][] {{10, 99}};
                case "p" -> new int[][] {};
                case "k" -> new int[][] {{0, t.n()}, {1, 9}, {0, 50}};
                case "f" -> new int[][] {{0, t.n() - 1}, {-99, 99}};
                case "x" -> new int[][] {{0, t.n() - 1}};
                default -> new int[][] {{0, t.n() - 1}, {0, t.width}};
            };
            for (int i = 0; i < ranges.length; i++) {
                if (numbers.get(i) < ranges[i][0] || numbers.get(i) > ranges[i][1]) {
                    return i;
                }
            }
            return -1;
        }

        static long act(State t, String letter, List<Integer> a) {
            switch (letter) {
                case "w":
                    return width(t, a.get(0));
                case "p":
                    return plate(t);
                case "k":
                    return spring(t, a.get(0), a.get(1), a.get(2));
                case "f":
                    return load(t, a.get(0), a.get(1));
                case "x":
                    t.stops.set(a.get(0), new Integer[2]);
                    return 0;
                default:
                    return stop(t, a.get(0), letter.equals("l") ? 0 : 1, a.get(1));
            }
        }

        long fault(int what) {
            if (what < 0 || what > 2) {
                return INVALID;
            }
            long[] fault = fault(s.copy(), new int[1]);
            return fault == null ? NONE : fault[what];
        }

        long play() {
            State t = s.copy();
            int[] done = new int[1];
            return fault(t, done) != null ? IMPOSSIBLE : change(t, done[0]);
        }
    }

    // A row of numbers that looks mixed, and is the same in each run of this test.
    static long seed = 20261119;

    static int pick(int from, int to) {
        seed = seed * 6364136223846793005L + 1442695040888963407L;
        return from + (int) ((seed >>> 33) % (to - from + 1));
    }

    static boolean chance(int of) {
        return pick(1, of) == 1;
    }

    static int wrong = 0;
    static SpringPlates x;
    static Model m;
    static StringBuilder calls;
    static int callCount;

    static void same(String call, long got, long want) {
        calls.append(call).append(' ');
        callCount++;
        if (got != want) {
            wrong++;
            if (wrong <= 10) {
                System.out.println(call + " answered " + got + ", due is " + want + ", after: " + calls);
            }
        }
    }

    static int wild(int from, int to) {
        if (chance(40)) {
            int[] odd = {from - 1, to + 1, Integer.MIN_VALUE, Integer.MAX_VALUE, -1};
            return odd[pick(0, odd.length - 1)];
        }
        return pick(from, to);
    }

    static int somePlate() {
        return m.s.n() == 0 || chance(40) ? wild(0, 4) : pick(0, m.s.n() - 1);
    }

    static void changeSomething() {
        State t = m.s.copy();
        int p = somePlate();
        switch (pick(0, 13)) {
            case 0 -> {
                int w = wild(10, 99);
                same("width(" + w + ")", x.width(w), m.change(t, Model.width(t, w)));
            }
            case 1, 2, 3 -> same("plate()", x.plate(), m.change(t, Model.plate(t)));
            case 4 -> {
                if (chance(2)) {
                    same("drop(" + p + ")", x.drop(p), m.change(t, Model.drop(t, p)));
                }
            }
            case 5, 6 -> {
                int k = wild(0, m.s.n());
                int strength = wild(1, 9);
                int length = wild(0, 50);
                same("spring(" + k + "," + strength + "," + length + ")", x.spring(k, strength, length),
                        m.change(t, Model.spring(t, k, strength, length)));
            }
            case 7, 8 -> {
                int load = wild(-99, 99);
                same("load(" + p + "," + load + ")", x.load(p, load), m.change(t, Model.load(t, p, load)));
            }
            case 9, 10, 11 -> {
                int side = wild(0, 1);
                int place = wild(0, m.s.width);
                same("stop(" + p + "," + side + "," + place + ")", x.stop(p, side, place),
                        m.change(t, Model.stop(t, p, side, place)));
            }
            case 12 -> {
                int side = wild(0, 1);
                same("unstop(" + p + "," + side + ")", x.unstop(p, side), m.change(t, Model.unstop(t, p, side)));
            }
            default -> same("undo()", x.undo(), m.undo());
        }
    }

    static void askSomething() {
        int p = somePlate();
        switch (pick(0, 9)) {
            case 0 -> {
                int what = wild(0, 6);
                same("plateOf(" + p + "," + what + ")", x.plateOf(p, what), m.plateOf(p, what));
            }
            case 1, 2 -> {
                int part = wild(0, 2);
                same("place(" + p + "," + part + ")", x.place(p, part), m.place(p, part));
            }
            case 3 -> {
                int part = wild(0, 1);
                int k = wild(0, m.s.n());
                same("pull(" + k + "," + part + ")", x.pull(k, part), m.pull(k, part));
            }
            case 4 -> {
                int part = wild(0, 1);
                same("push(" + p + "," + part + ")", x.push(p, part), m.push(p, part));
            }
            case 5, 6 -> {
                int what = wild(0, 4);
                same("plates(" + what + ")", x.plates(what), m.plates(what));
            }
            case 7 -> {
                int side = wild(0, 1);
                int other = somePlate();
                int part = wild(0, 1);
                same("without(" + p + "," + side + "," + other + "," + part + ")", x.without(p, side, other, part),
                        m.without(p, side, other, part));
            }
            case 8 -> {
                int what = wild(0, 3);
                same("hardest(" + what + ")", x.hardest(what), m.hardest(what));
            }
            default -> {
                int what = wild(0, 5);
                same("count(" + what + ")", x.count(what), m.count(what));
            }
        }
    }

    static void askLeastLoad() {
        int p = somePlate();
        int place = wild(0, 99);
        same("leastLoad(" + p + "," + place + ")", x.leastLoad(p, place), m.leastLoad(p, place));
    }

    static String number(int from, int to) {
        int value = pick(from, to);
        return (value < 10 && chance(4) ? "0" : "") + value;
    }

    static String someSetting() {
        int plates = Math.max(0, Math.min(3, m.s.n()));
        String setting = switch (pick(0, 8)) {
            case 0 -> "w" + number(8, 99) + ";";
            case 1, 2 -> "p;";
            case 3 -> "k" + number(0, plates + 1) + "," + number(0, 10) + "," + number(0, 53) + ";";
            case 4, 5 -> "f" + number(0, plates) + "," + (chance(2) ? "-" : "") + number(0, 99) + ";";
            case 6 -> "l" + number(0, plates) + "," + number(0, 40) + ";";
            case 7 -> "r" + number(0, plates) + "," + number(20, 62) + ";";
            default -> "x" + number(0, plates) + ";";
        };
        if (chance(12)) {
            int at = pick(0, setting.length() - 1);
            String odd = ";,-0179wpkflrx :/~";
            setting = setting.substring(0, at) + (chance(3) ? "" : odd.charAt(pick(0, odd.length() - 1)))
                    + setting.substring(chance(2) ? at : at + 1);
        }
        return setting;
    }

    static void typeSettings() {
        if (chance(3)) {
            same("clearText()", x.clearText(), m.text.length());
            m.text = "";
        }
        int settings = pick(0, 7);
        for (int i = 0; i < settings; i++) {
            for (char c : someSetting().toCharArray()) {
                int character = chance(500) ? wild(32, 126) : c;
                same("type(" + character + ")", x.type(character), m.type(character));
                if (chance(6)) {
                    askFault();
                }
            }
        }
        askFault();
        if (chance(3)) {
            same("play()", x.play(), m.play());
            same("count(4)", x.count(4), m.count(4));
        }
    }

    static void askFault() {
        int what = wild(0, 2);
        same("fault(" + what + ")", x.fault(what), m.fault(what));
    }

    static void run(int leastLoads) {
        x = new SpringPlates();
        m = new Model();
        calls = new StringBuilder();
        callCount = 0;
        int texts = 0;
        while (callCount < 400) {
            int kind = pick(0, 99);
            if (kind < 40) {
                changeSomething();
            } else if (kind < 98 || callCount > 350) {
                askSomething();
            } else {
                typeSettings();
                texts++;
            }
            if (leastLoads > 0 && callCount > 400 - 20 * leastLoads && chance(10)) {
                askLeastLoad();
                leastLoads--;
            }
        }
        if (KNOWN.size() > 20000) {
            KNOWN.clear();
        }
    }

    public static void main(String[] args) {
        int runs = args.length > 0 ? Integer.parseInt(args[0]) : 60;
        if (args.length > 1) {
            seed = Long.parseLong(args[1]);
        }
        for (int i = 0; i < runs; i++) {
            run(i % 4 == 0 ? 3 : 0);
        }
        System.out.println(wrong == 0 ? "the second program agrees" : wrong + " answers differ");
        if (wrong != 0) {
            System.exit(1);
        }
    }
}
