import java.math.BigInteger;
import java.util.ArrayList;
import java.util.Arrays;
import java.util.List;

/**
 * The document once more, written for plainness and with other means than the class has: fractions of
 * BigInteger, the equations as they stand in the Terms, laws asked by their kinds, determinants of
 * all principal squares for ALLOWED.
 */
final class BoardModel {
    record Sight(int x, int y, int number, int doubt) { }

    record Place(int x, int y) { }

    record Row(int width, long[] numbers) { }

    record Solution(Ratio[] weights, Ratio price) { }

    record Answer(Ratio guess, Ratio spread, Ratio price, Ratio[] weights) { }

    interface Law {
        int tell(int way);
    }

    /** A fraction in lowest terms, its bottom above 0. */
    record Ratio(BigInteger top, BigInteger bottom) {
        static final Ratio ZERO = of(0);
        static final Ratio ONE = of(1);

        static Ratio of(long value) {
            return new Ratio(BigInteger.valueOf(value), BigInteger.ONE);
        }

        static Ratio of(BigInteger top, BigInteger bottom) {
            BigInteger shared = top.gcd(bottom);
            if (bottom.signum() < 0) {
                shared = shared.negate();
            }
            return new Ratio(top.divide(shared), bottom.divide(shared));
        }

        Ratio plus(Ratio o) {
            return of(top.multiply(o.bottom).add(o.top.multiply(bottom)), bottom.multiply(o.bottom));
        }

        Ratio minus(Ratio o) {
            return plus(new Ratio(o.top.negate(), o.bottom));
        }

        Ratio times(Ratio o) {
            return of(top.multiply(o.top), bottom.multiply(o.bottom));
        }

        Ratio by(Ratio o) {
            return of(top.multiply(o.bottom), bottom.multiply(o.top));
        }

        boolean isZero() {
            return top.signum() == 0;
        }

        int compareSize(Ratio o) {
            return top.abs().multiply(o.bottom).compareTo(o.top.abs().multiply(bottom));
        }
    }

    private final Row[] slots = new Row[8];
    private List<Sight> seen = new ArrayList<>();
    private final List<Law> laws = new ArrayList<>();
    private int used = -1;
    private int nearest = 8;
    private Answer answer = null;
    private Ratio result = Ratio.ZERO;

    int row(int slot, int width, int n) {
        if (slot < 0 || slot > 7 || width < 0 || width > 3 || n > 60) return -2;
        if (n < 0) return -3;
        slots[slot] = new Row(width, new long[n]);
        return 0;
    }

    boolean tear(int slot) {
        if (slot < 0 || slot > 7 || slots[slot] == null) return false;
        slots[slot] = null;
        return true;
    }

    int write(int slot, int i, long v) {
        if (slot < 0 || slot > 7) return -2;
        Row row = slots[slot];
        if (row == null) return -5;
        if (i < 0 || i >= row.numbers.length) return -6;
        int bits = 64 - (8 << row.width);
        row.numbers[i] = v << bits >> bits;
        return 0;
    }

    int seen(int slot) {
        if (slot < 0 || slot > 7) return -2;
        if (slots[slot] == null) return -5;
        long[] row = slots[slot].numbers;
        List<Sight> read = new ArrayList<>();
        int refusal = look(row, 0, 0, 8);
        if (refusal != 0) return refusal;
        for (int i = 0; i < row[0]; i++) {
            int at = 1 + 4 * i;
            refusal = look(row, at, -20, 20);
            if (refusal == 0) refusal = look(row, at + 1, -20, 20);
            if (refusal == 0 && there(read, (int) row[at], (int) row[at + 1])) refusal = -4;
            if (refusal == 0) refusal = look(row, at + 2, -1000, 1000);
            if (refusal == 0) refusal = look(row, at + 3, 0, 100);
            if (refusal != 0) return refusal;
            read.add(new Sight((int) row[at], (int) row[at + 1], (int) row[at + 2], (int) row[at + 3]));
        }
        seen = read;
        answer = null;
        return seen.size();
    }

    private static int look(long[] row, int i, long low, long high) {
        return i >= row.length ? -6 : row[i] < low || row[i] > high ? -4 : 0;
    }

    private static boolean there(List<Sight> sights, int x, int y) {
        return sights.stream().anyMatch(s -> s.x == x && s.y == y);
    }

    int see(int x, int y, int number, int doubt) {
        if (noPlace(x, y) || number < -1000 || number > 1000 || doubt < 0 || doubt > 100) return -4;
        if (seen.size() == 8) return -8;
        if (there(seen, x, y)) return -9;
        seen.add(new Sight(x, y, number, doubt));
        answer = null;
        return seen.size() - 1;
    }

    private static boolean noPlace(int x, int y) {
        return x < -20 || x > 20 || y < -20 || y > 20;
    }

    int drop(int i) {
        if (i < 0 || i >= seen.size()) return -2;
        seen.remove(i);
        answer = null;
        return seen.size();
    }

    int straight(int a) {
        if (a < 1 || a > 100) return -4;
        return addLaw(way -> a * way);
    }

    int capped(int a, int b) {
        if (a < 1 || a > 100 || b < 1 || b > 8000) return -4;
        return addLaw(way -> a * way > b ? b : a * way);
    }

    int table(int slot) {
        if (slot < 0 || slot > 7) return -2;
        if (laws.size() == 6) return -8;
        if (slots[slot] == null) return -5;
        long[] row = slots[slot].numbers.clone();
        int refusal = look(row, 0, 1, 40);
        if (refusal != 0) return refusal;
        int many = (int) row[0];
        for (int i = 1; i <= many; i++) {
            refusal = look(row, i, 0, 8000);
            if (refusal != 0) return refusal;
        }
        return addLaw(way -> way == 0 ? 0 : (int) row[way > many ? many : way]);
    }

    int sum(int a, int b) {
        if (noLaw(a) || noLaw(b)) return -2;
        if (laws.size() == 6) return -8;
        Law one = laws.get(a);
        Law other = laws.get(b);
        for (int way = 0; way <= 80; way++) {
            if (one.tell(way) + other.tell(way) > 16000) return -4;
        }
        return addLaw(way -> one.tell(way) + other.tell(way));
    }

    private int addLaw(Law law) {
        if (laws.size() == 6) return -8;
        laws.add(law);
        return laws.size() - 1;
    }

    private boolean noLaw(int l) {
        return l < 0 || l >= laws.size();
    }

    int unlike(int l, int way) {
        return noLaw(l) || way < 0 || way > 80 ? -1 : laws.get(l).tell(way);
    }

    boolean use(int l) {
        if (l != -1 && noLaw(l)) return false;
        used = l;
        answer = null;
        return true;
    }

    boolean nearest(int k) {
        if (k < 1 || k > 8) return false;
        nearest = k;
        return true;
    }

    int ask(int x, int y) {
        if (noPlace(x, y)) return -4;
        if (used == -1 || seen.isEmpty()) return -5;
        return guess(List.of(new Place(x, y)));
    }

    int mean(int slot) {
        if (slot < 0 || slot > 7) return -2;
        if (slots[slot] == null) return -5;
        long[] row = slots[slot].numbers;
        int refusal = look(row, 0, 1, 6);
        if (refusal != 0) return refusal;
        List<Place> asked = new ArrayList<>();
        for (int i = 0; i < row[0]; i++) {
            refusal = look(row, 1 + 2 * i, -20, 20);
            if (refusal == 0) refusal = look(row, 2 + 2 * i, -20, 20);
            if (refusal != 0) return refusal;
            asked.add(new Place((int) row[1 + 2 * i], (int) row[2 + 2 * i]));
        }
        if (used == -1 || seen.isEmpty()) return -10;
        return guess(asked);
    }

    private int guess(List<Place> asked) {
        Law law = laws.get(used);
        List<Integer> chosen = choose(asked);
        Solution solution = solve(law, chosen, asked);
        if (solution == null) return -7;
        Ratio spread = solution.price.minus(within(law, asked));
        Ratio[] weights = new Ratio[seen.size()];
        Arrays.fill(weights, Ratio.ZERO);
        Ratio guess = Ratio.ZERO;
        for (int i = 0; i < chosen.size(); i++) {
            Sight sight = seen.get(chosen.get(i));
            Ratio weight = solution.weights[i];
            weights[chosen.get(i)] = weight;
            guess = guess.plus(weight.times(Ratio.of(sight.number)));
            spread = spread.plus(weight.times(meanTo(law, sight, asked)));
        }
        answer = new Answer(guess, spread, solution.price, weights);
        return 0;
    }

    private List<Integer> choose(List<Place> asked) {
        List<Integer> all = new ArrayList<>();
        for (int i = 0; i < seen.size(); i++) all.add(i);
        // The sort is stable: of alike ones the lower numbers stay first.
        all.sort((i, j) -> Integer.compare(ways(i, asked), ways(j, asked)));
        return all.subList(0, Math.min(nearest, all.size()));
    }

    private int ways(int i, List<Place> asked) {
        return asked.stream().mapToInt(q -> way(seen.get(i), q)).sum();
    }

    private static int way(Sight s, Place q) {
        return Math.abs(s.x - q.x) + Math.abs(s.y - q.y);
    }

    private static Place place(Sight s) {
        return new Place(s.x, s.y);
    }

    private static Ratio meanTo(Law law, Sight sight, List<Place> asked) {
        int all = asked.stream().mapToInt(q -> law.tell(way(sight, q))).sum();
        return Ratio.of(BigInteger.valueOf(all), BigInteger.valueOf(asked.size()));
    }

    private static Ratio within(Law law, List<Place> asked) {
        long all = 0;
        for (Place p : asked) {
            for (Place q : asked) {
                all += law.tell(Math.abs(p.x - q.x) + Math.abs(p.y - q.y));
            }
        }
        return Ratio.of(BigInteger.valueOf(all), BigInteger.valueOf((long) asked.size() * asked.size()));
    }

    private Solution solve(Law law, List<Integer> chosen, List<Place> asked) {
        int n = chosen.size();
        Ratio[][] lines = new Ratio[n + 1][n + 2];
        for (int i = 0; i < n; i++) {
            Sight one = seen.get(chosen.get(i));
            for (int j = 0; j < n; j++) {
                Sight other = seen.get(chosen.get(j));
                lines[i][j] = Ratio.of(law.tell(way(one, place(other))) - (i == j ? one.doubt : 0));
            }
            lines[i][n] = Ratio.ONE;
            lines[n][i] = Ratio.ONE;
            lines[i][n + 1] = meanTo(law, one, asked);
        }
        lines[n][n] = Ratio.ZERO;
        lines[n][n + 1] = Ratio.ONE;
        if (!eliminate(lines)) return null;
        Ratio[] weights = new Ratio[n];
        for (int i = 0; i < n; i++) weights[i] = lines[i][n + 1];
        return new Solution(weights, lines[n][n + 1]);
    }

    private static boolean eliminate(Ratio[][] lines) {
        int n = lines.length;
        for (int k = 0; k < n; k++) {
            int pivot = k;
            while (pivot < n && lines[pivot][k].isZero()) pivot++;
            if (pivot == n) return false;
            Ratio[] held = lines[k];
            lines[k] = lines[pivot];
            lines[pivot] = held;
            Ratio lead = lines[k][k];
            for (int j = 0; j < lines[k].length; j++) lines[k][j] = lines[k][j].by(lead);
            for (int i = 0; i < n; i++) {
                if (i == k || lines[i][k].isZero()) continue;
                Ratio factor = lines[i][k];
                for (int j = 0; j < lines[i].length; j++) {
                    lines[i][j] = lines[i][j].minus(factor.times(lines[k][j]));
                }
            }
        }
        return true;
    }

    boolean answer(int what) {
        if (answer == null) return false;
        if (what == 0) result = answer.guess;
        else if (what == 1) result = answer.spread;
        else if (what == 2) result = answer.price;
        else if (what >= 10 && what < 10 + seen.size()) result = answer.weights[what - 10];
        else return false;
        return true;
    }

    private Ratio off(Law law, int i) {
        if (i < 0 || i >= seen.size() || seen.size() == 1) return null;
        List<Integer> others = new ArrayList<>();
        for (int j = 0; j < seen.size(); j++) {
            if (j != i) others.add(j);
        }
        Sight left = seen.get(i);
        Solution solution = solve(law, others, List.of(place(left)));
        if (solution == null) return null;
        Ratio off = Ratio.of(left.number);
        for (int j = 0; j < others.size(); j++) {
            off = off.minus(solution.weights[j].times(Ratio.of(seen.get(others.get(j)).number)));
        }
        return off;
    }

    boolean leftOut(int i) {
        Ratio off = used == -1 ? null : off(laws.get(used), i);
        if (off == null) return false;
        result = off;
        return true;
    }

    private int worstBy(Law law) {
        int found = -1;
        Ratio greatest = null;
        for (int i = 0; i < seen.size(); i++) {
            Ratio off = off(law, i);
            if (off == null) return -1;
            if (greatest == null || off.compareSize(greatest) > 0) {
                greatest = off;
                found = i;
            }
        }
        return found;
    }

    int worst() {
        return used == -1 ? -1 : worstBy(laws.get(used));
    }

    int best() {
        int found = -1;
        Ratio least = null;
        for (int l = 0; l < laws.size(); l++) {
            int worst = worstBy(laws.get(l));
            if (worst == -1) continue;
            Ratio off = off(laws.get(l), worst);
            if (least == null || off.compareSize(least) < 0) {
                least = off;
                found = l;
            }
        }
        return found;
    }

    int allowed(int l) {
        if (noLaw(l)) return -1;
        int n = seen.size() - 1;
        if (n <= 0) return 2;
        long[][] form = new long[n][n];
        for (int i = 0; i < n; i++) {
            for (int j = 0; j < n; j++) {
                form[i][j] = unlikeTwo(l, i, n) + unlikeTwo(l, n, j) - unlikeTwo(l, i, j);
            }
        }
        boolean strictly = true;
        for (int set = 1; set < 1 << n; set++) {
            int sign = determinantSign(form, set);
            if (sign < 0) return 0;
            if (sign == 0) strictly = false;
        }
        return strictly ? 2 : 1;
    }

    private int unlikeTwo(int l, int i, int j) {
        return laws.get(l).tell(way(seen.get(i), place(seen.get(j))));
    }

    private static int determinantSign(long[][] form, int set) {
        List<Integer> kept = new ArrayList<>();
        for (int i = 0; i < form.length; i++) {
            if ((set >> i & 1) == 1) kept.add(i);
        }
        int n = kept.size();
        BigInteger[][] square = new BigInteger[n][n];
        for (int i = 0; i < n; i++) {
            for (int j = 0; j < n; j++) square[i][j] = BigInteger.valueOf(form[kept.get(i)][kept.get(j)]);
        }
        int sign = 1;
        for (int k = 0; k < n; k++) {
            int pivot = k;
            while (pivot < n && square[pivot][k].signum() == 0) pivot++;
            if (pivot == n) return 0;
            if (pivot != k) sign = -sign;
            BigInteger[] held = square[k];
            square[k] = square[pivot];
            square[pivot] = held;
            BigInteger lead = square[k][k];
            if (lead.signum() < 0) sign = -sign;
            for (int i = k + 1; i < n; i++) {
                BigInteger factor = square[i][k];
                // The row is taken |lead| times, which leaves the determinant's sign.
                for (int j = k; j < n; j++) {
                    BigInteger value = square[i][j].multiply(lead).subtract(factor.multiply(square[k][j]));
                    square[i][j] = lead.signum() < 0 ? value.negate() : value;
                }
            }
        }
        return sign;
    }

    int pairs(int from, int to) {
        return differences(from, to).size();
    }

    private List<Integer> differences(int from, int to) {
        List<Integer> found = new ArrayList<>();
        for (int i = 0; i < seen.size(); i++) {
            for (int j = i + 1; j < seen.size(); j++) {
                int way = way(seen.get(i), place(seen.get(j)));
                if (from <= way && way <= to) found.add(seen.get(i).number - seen.get(j).number);
            }
        }
        return found;
    }

    boolean band(int from, int to) {
        List<Integer> found = differences(from, to);
        if (found.isEmpty()) return false;
        Ratio all = Ratio.ZERO;
        for (int difference : found) {
            all = all.plus(Ratio.of((long) difference * difference).by(Ratio.of(2)));
        }
        result = all.by(Ratio.of(found.size()));
        return true;
    }

    int look(int what) {
        if (what == 0) return result.top.signum();
        if (what == 1) return (result.top.abs().toString().length() + 8) / 9;
        if (what == 2) return (result.bottom.toString().length() + 8) / 9;
        return -1;
    }

    int part(boolean bottom, int i) {
        String digits = (bottom ? result.bottom : result.top).abs().toString();
        if (i < 0 || i > digits.length() / 9) return 0;
        int end = digits.length() - 9 * i;
        return end <= 0 ? 0 : Integer.parseInt(digits.substring(Math.max(0, end - 9), end));
    }

    int told(int i, int what) {
        if (i < 0 || i >= seen.size() || what < 0 || what > 3) return -10000;
        Sight s = seen.get(i);
        return new int[] {s.x, s.y, s.number, s.doubt}[what];
    }

    int count(int what) {
        switch (what) {
            case 0: return seen.size();
            case 1: return laws.size();
            case 2: return used;
            case 3: return nearest;
            case 4: return (int) Arrays.stream(slots).filter(s -> s != null).count();
            case 5: return answer == null ? 0 : 1;
            default: return -1;
        }
    }
}
