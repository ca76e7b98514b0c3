import java.math.BigInteger;
import java.util.ArrayList;
import java.util.Arrays;
import java.util.Collections;
import java.util.List;
import java.util.TreeSet;
import java.util.regex.Pattern;

/**
 * The document once more, as slowly and plainly as can be, and by other ways than the program's:
 * lists, regular expressions, HOURS told anew from the first one, searches through all that can be.
 */
final class Model {
    private static final int BAD = -1, FULL = -2, FINDING = -3, STATE = -4, SPENT = -6, NONE = -9;
    private static final String LETTERS = "hfmbuc";

    /** All that a kept STREET holds. */
    private static final class Town {
        int altar;
        int leak;
        final List<int[]> houses = new ArrayList<>(); // KIND, LOUD, WALL, PAID
        final List<Integer> sets = new ArrayList<>();
        final List<int[]> ripples = new ArrayList<>(); // of each HOUR, as they were then
        int[][] owes = new int[0][0];

        Town again() {
            Town other = new Town();
            other.altar = altar;
            other.leak = leak;
            houses.forEach(h -> other.houses.add(h.clone()));
            other.sets.addAll(sets);
            other.ripples.addAll(ripples);
            other.owes = Arrays.stream(owes).map(int[]::clone).toArray(int[][]::new);
            return other;
        }
    }

    private final int[][] rows = new int[6][];
    private final byte[][] texts = new byte[4][];
    private final Town[] kept = new Town[3];
    private Town town = new Town();
    private int asked = 0;
    private BigInteger upper = BigInteger.ZERO;
    private BigInteger lower = BigInteger.ONE;
    private final List<Integer> found = new ArrayList<>();

    private int find(int f) {
        found.add(f);
        return FINDING;
    }

    private int tell(int what, int answer) {
        asked = what;
        return answer;
    }

    private void fraction(BigInteger a, BigInteger b) {
        BigInteger g = a.gcd(b);
        upper = a.divide(g);
        lower = b.divide(g);
    }

    private static boolean in(long v, long least, long most) {
        return least <= v && v <= most;
    }

    // ---- what is known of a HOUSE

    private int houses() {
        return town.houses.size();
    }

    private boolean isHouse(int i) {
        return in(i, 0, houses() - 1);
    }

    private boolean isSet(int set) {
        return in(set, 0, (1 << houses()) - 1);
    }

    private int kind(int i) {
        return town.houses.get(i)[0];
    }

    private boolean mute(int i) {
        return kind(i) == 4;
    }

    private int sound(int i) {
        int loud = town.houses.get(i)[1];
        switch (kind(i)) {
            case 1: return loud + loud;
            case 2: return loud / 2;
            case 4: return 0;
            default: return loud;
        }
    }

    private int ripple(int i) {
        int far = i > town.altar ? i - town.altar : town.altar - i;
        int r = sound(i) - town.houses.get(i)[2] - far;
        return r < 0 ? 0 : r;
    }

    private int ripples(int set) {
        int sum = 0;
        for (int i : members(set)) {
            sum += ripple(i);
        }
        return sum;
    }

    private List<Integer> members(int set) {
        List<Integer> all = new ArrayList<>();
        for (int i = 0; i < houses(); i++) {
            if ((set & (1 << i)) != 0) {
                all.add(i);
            }
        }
        return all;
    }

    private boolean hasMute(int set) {
        return members(set).stream().anyMatch(this::mute);
    }

    private int allMade(int i) {
        return town.ripples.stream().mapToInt(r -> r[i]).sum();
    }

    private int owesAll(int i) {
        return Arrays.stream(town.owes[i]).sum();
    }

    private boolean exempt(int i) {
        return kind(i) == 3 || (kind(i) == 5 && owesAll(i) == 0);
    }

    private int titheOf(int i) {
        int tenth = exempt(i) ? 0 : allMade(i) / 10;
        return tenth - town.houses.get(i)[3];
    }

    /** Water, all that ran over, rise of the last HOUR, what ran over in it: of so many HOURS. */
    private int[] told(int hours) {
        int water = 0;
        int over = 0;
        int rose = 0;
        int ran = 0;
        for (int k = 0; k < hours; k++) {
            int rise = Arrays.stream(town.ripples.get(k)).sum();
            int would = water + rise;
            ran = would > 60 ? would - 60 : 0;
            rose = rise - ran;
            over += ran;
            water = would - ran;
            water -= town.leak < water ? town.leak : water;
        }
        return new int[] {water, over, rose, ran};
    }

    private int water() {
        return told(town.sets.size())[0];
    }

    // ---- 1

    public int row(int r, int n) {
        if (!in(r, 0, 5) || n > 40) return BAD;
        if (n < 0) return find(5);
        rows[r] = new int[n];
        return n;
    }

    private int rowPlace(int r, int i) {
        if (!in(r, 0, 5)) return BAD;
        if (rows[r] == null) return find(1);
        return in(i, 0, rows[r].length - 1) ? 1 : find(2);
    }

    public int lay(int r, int i, int v) {
        int answer = rowPlace(r, i);
        if (answer == 1) {
            asked = rows[r][i];
            rows[r][i] = v;
        }
        return answer;
    }

    public int at(int r, int i) {
        int answer = rowPlace(r, i);
        return answer == 1 ? tell(rows[r][i], 1) : answer;
    }

    public int tear(int r) {
        if (!in(r, 0, 5)) return BAD;
        if (rows[r] == null) return find(1);
        rows[r] = null;
        return 1;
    }

    public int copy(int r, int i, int to, int j, int n) {
        if (!in(r, 0, 5) || !in(to, 0, 5)) return BAD;
        if (n < 0) return find(5);
        if (rows[r] == null || rows[to] == null) return find(1);
        if (i < 0 || j < 0 || (long) i + n > rows[r].length || (long) j + n > rows[to].length) return find(2);
        int[] taken = Arrays.copyOfRange(rows[r], i, i + n);
        for (int k = 0; k < n; k++) {
            rows[to][j + k] = taken[k];
        }
        return 1;
    }

    public int mean(int r) {
        if (!in(r, 0, 5)) return BAD;
        if (rows[r] == null) return find(1);
        if (rows[r].length == 0) return find(4);
        BigInteger sum = BigInteger.ZERO;
        for (int v : rows[r]) {
            sum = sum.add(BigInteger.valueOf(v));
        }
        return tell(sum.divide(BigInteger.valueOf(rows[r].length)).intValueExact(), 1);
    }

    public int text(int t, int n) {
        if (!in(t, 0, 3) || n > 80) return BAD;
        if (n < 0) return find(5);
        texts[t] = new byte[n];
        Arrays.fill(texts[t], (byte) 32);
        return n;
    }

    public int put(int t, int i, int v) {
        if (!in(t, 0, 3)) return BAD;
        if (texts[t] == null) return find(1);
        if (!in(i, 0, texts[t].length - 1)) return find(2);
        int was = texts[t][i];
        texts[t][i] = (byte) v;
        return 1000 + was;
    }

    private String string(int t) {
        StringBuilder s = new StringBuilder();
        for (byte b : texts[t]) {
            s.append((char) (b & 255));
        }
        return s.toString();
    }

    public int fault(int t) {
        if (!in(t, 0, 3)) return BAD;
        if (texts[t] == null) return find(1);
        String s = string(t);
        if (Pattern.matches(" *a[0-9][0-9] *([" + LETTERS + "][0-9][0-9] *){0,8}", s)) return NONE;
        Pattern begins = Pattern.compile(" *(a|a[0-9]|a[0-9][0-9] *([" + LETTERS + "][0-9][0-9] *){0,8}"
                + "|a[0-9][0-9] *([" + LETTERS + "][0-9][0-9] *){0,7}[" + LETTERS + "][0-9]?)?");
        for (int n = s.length(); n > 0; n--) {
            if (begins.matcher(s.substring(0, n)).matches()) return n;
        }
        return 0;
    }

    public int street(int t) {
        if (!in(t, 0, 3)) return BAD;
        if (texts[t] == null) return find(1);
        if (fault(t) != NONE) return STATE;
        String s = string(t).replace(" ", "");
        town = new Town();
        Arrays.fill(kept, null);
        town.altar = s.charAt(1) - '0';
        town.leak = s.charAt(2) - '0';
        for (int k = 3; k < s.length(); k += 3) {
            town.houses.add(new int[] {LETTERS.indexOf(s.charAt(k)), s.charAt(k + 1) - '0', s.charAt(k + 2) - '0', 0});
        }
        town.owes = new int[houses()][houses()];
        return houses();
    }

    private int[] house(int i) {
        int[] h = town.houses.get(i);
        return new int[] {h[0], h[1], h[2], sound(i), ripple(i)};
    }

    public int house(int i, int what) {
        if (!isHouse(i) || !in(what, 0, 4)) return BAD;
        return tell(house(i)[what], 1);
    }

    private boolean isOf(int i, int kind) {
        return kind(i) == kind || (kind == 2 && kind(i) == 4) || (kind == 3 && kind(i) == 5);
    }

    public int mark(int i, int kind) {
        if (!isHouse(i) || !in(kind, 1, 5)) return BAD;
        if (!isOf(i, kind)) return find(3);
        int lesser = 0;
        for (int j = 0; j < houses(); j++) {
            if (ripple(j) < ripple(i)) {
                lesser++;
            }
        }
        int[] tells = {0, lesser, town.houses.get(i)[1] - sound(i), allMade(i), Math.abs(i - town.altar), owesAll(i)};
        return tells[kind];
    }

    public int altar(int v) {
        if (!in(v, 0, 9)) return BAD;
        if (houses() == 0) return STATE;
        int was = town.altar;
        town.altar = v;
        return was;
    }

    public int wall(int i, int v) {
        if (!isHouse(i) || !in(v, 0, 99)) return BAD;
        int was = town.houses.get(i)[2];
        town.houses.get(i)[2] = v;
        return was;
    }

    // ---- 2

    public int hour(int set) {
        if (!isSet(set)) return BAD;
        if (houses() == 0) return STATE;
        if (town.sets.size() == 40) return FULL;
        int[] then = new int[houses()];
        for (int i : members(set)) {
            then[i] = ripple(i);
        }
        town.sets.add(set);
        town.ripples.add(then);
        int[] now = told(town.sets.size());
        return tell(now[3], now[0]);
    }

    public int undo(int from) {
        int n = town.sets.size();
        if (!in(from, 0, n)) return BAD;
        town.sets.subList(from, n).clear();
        town.ripples.subList(from, n).clear();
        return n - from;
    }

    public int jar() {
        return tell(told(town.sets.size())[1], water());
    }

    public int loud(int hour) {
        if (hour < 0) return BAD;
        if (hour >= town.sets.size()) return find(2);
        return tell(told(hour + 1)[2], town.sets.get(hour));
    }

    public int made(int i) {
        return isHouse(i) ? allMade(i) : BAD;
    }

    public int tithe(int i) {
        return isHouse(i) ? tell(titheOf(i), 1) : BAD;
    }

    public int pay(int i, int v) {
        if (!isHouse(i) || !in(v, 0, 99)) return BAD;
        int paid = town.houses.get(i)[3] + v;
        if (paid > 999) return SPENT;
        town.houses.get(i)[3] = paid;
        return paid;
    }

    public int due() {
        List<Integer> tithes = new ArrayList<>();
        for (int i = 0; i < houses(); i++) {
            tithes.add(Math.max(0, titheOf(i)));
        }
        int most = tithes.isEmpty() ? 0 : Collections.max(tithes);
        return tell(most == 0 ? NONE : tithes.indexOf(most), tithes.stream().mapToInt(v -> v).sum());
    }

    public int keep(int k) {
        if (!in(k, 0, 2)) return BAD;
        if (houses() == 0) return STATE;
        kept[k] = town.again();
        return town.sets.size();
    }

    public int on(int k) {
        if (!in(k, 0, 2)) return BAD;
        if (kept[k] == null) return find(1);
        town = kept[k].again();
        return town.sets.size();
    }

    // ---- 3

    private List<Integer> fitting(int v) {
        List<Integer> all = new ArrayList<>();
        for (int set = 0; set < 1 << houses(); set++) {
            if (!hasMute(set) && ripples(set) == v) {
                all.add(set);
            }
        }
        return all;
    }

    private static int howManyHave(List<Integer> sets, int i) {
        return (int) sets.stream().filter(set -> (set & (1 << i)) != 0).count();
    }

    public int fits(int v) {
        if (!in(v, 0, 200)) return BAD;
        List<Integer> all = fitting(v);
        return all.isEmpty() ? NONE : tell(Collections.min(all), all.size());
    }

    public int sure(int v) {
        if (!in(v, 0, 200)) return BAD;
        List<Integer> all = fitting(v);
        if (all.isEmpty()) return find(4);
        int sure = 0;
        int never = 0;
        for (int i = 0; i < houses(); i++) {
            int n = howManyHave(all, i);
            sure += n == all.size() ? 1 << i : 0;
            never += n == 0 ? 1 << i : 0;
        }
        return tell(never, sure);
    }

    public int odds(int i, int v) {
        if (!isHouse(i) || !in(v, 0, 200)) return BAD;
        List<Integer> all = fitting(v);
        if (all.isEmpty()) return find(4);
        int n = howManyHave(all, i);
        fraction(BigInteger.valueOf(n), BigInteger.valueOf(all.size()));
        return n;
    }

    public int thunder(int v, int w) {
        if (!in(v, 0, 200) || !in(w, 1, 50)) return BAD;
        boolean alone = !fitting(v).isEmpty();
        boolean both = !fitting(v - w).isEmpty();
        return alone && both ? 3 : both ? 2 : alone ? 1 : 0;
    }

    public int joined(int r) {
        if (!in(r, 0, 5)) return BAD;
        int[] row = rows[r];
        if (row == null) return find(1);
        if (row.length == 0) return find(5);
        if (!Arrays.stream(row).allMatch(v -> in(v, 0, 200))) return find(3);
        int ways = 0;
        int[] would = new int[row.length];
        for (int set = 0; set < 1 << houses(); set++) {
            if (hasMute(set)) {
                continue;
            }
            Arrays.fill(would, ripples(set));
            ways += Arrays.equals(would, row) ? 1 : 0;
            for (int i = 0; i < houses(); i++) {
                for (int k = 0; k < row.length && !mute(i) && (set & (1 << i)) == 0; k++) {
                    would[k] += ripple(i);
                    ways += Arrays.equals(would, row) ? 1 : 0;
                    would[k] -= ripple(i);
                }
            }
        }
        return ways;
    }

    public int silence(int v) {
        if (!in(v, 0, 200)) return BAD;
        List<Integer> all = fitting(v);
        if (all.isEmpty()) return find(4);
        if (houses() == 0) return NONE;
        for (int off = 0; ; off++) {
            for (int i = 0; i < houses(); i++) {
                int n = howManyHave(all, i);
                if (2 * n == all.size() + off || 2 * n == all.size() - off) return tell(n, i);
            }
        }
    }

    public int rises() {
        if (houses() == 0) return STATE;
        TreeSet<Integer> all = new TreeSet<>();
        for (int set = 0; set < 1 << houses(); set++) {
            if (!hasMute(set)) {
                all.add(ripples(set));
            }
        }
        return tell(all.last(), all.size());
    }

    // ---- 4

    public int wedding(int v) {
        if (!in(v, 0, 200)) return BAD;
        for (int cost = 0; cost <= 200; cost++) {
            for (int set = 0; set < 1 << houses(); set++) {
                int together = members(set).stream().mapToInt(this::sound).sum();
                if (together >= v && ripples(set) == cost) return tell(set, cost);
            }
        }
        return NONE;
    }

    public int feathers(int set, int n, int r) {
        if (!isSet(set) || !in(n, 0, 20) || !in(r, 0, 5)) return BAD;
        if (houses() == 0) return STATE;
        Town as = town.again();
        rows[r] = new int[houses()];
        for (int k = 0; k < n; k++) {
            int best = -1;
            for (int i : members(set)) {
                if (ripple(i) > (best < 0 ? 0 : ripple(best))) {
                    best = i;
                }
            }
            if (best >= 0) {
                town.houses.get(best)[2]++;
                rows[r][best]++;
            }
        }
        int together = ripples(set);
        town = as;
        return together;
    }

    public int most() {
        for (int n = houses(); n >= 0; n--) {
            for (int set = 0; set < 1 << houses(); set++) {
                if (members(set).size() == n && !hasMute(set) && water() + ripples(set) <= 60) return tell(set, n);
            }
        }
        return tell(0, 0);
    }

    /** All first sets of so many HOURS in which the HOUSES from one on find room. */
    private void fill(List<Integer> set, int from, int[] sets, int[] sums, int c, TreeSet<Integer> firsts) {
        if (from == set.size()) {
            firsts.add(sets[0]);
            return;
        }
        int i = set.get(from);
        for (int k = 0; k < sets.length; k++) {
            if (sums[k] + ripple(i) <= c) {
                sums[k] += ripple(i);
                sets[k] += 1 << i;
                fill(set, from + 1, sets, sums, c, firsts);
                sums[k] -= ripple(i);
                sets[k] -= 1 << i;
            }
        }
    }

    public int hours(int set, int c) {
        if (!isSet(set) || !in(c, 1, 200)) return BAD;
        List<Integer> all = members(set);
        if (all.isEmpty()) return tell(0, 0);
        for (int n = 1; n <= all.size(); n++) {
            TreeSet<Integer> firsts = new TreeSet<>();
            fill(all, 0, new int[n], new int[n], c, firsts);
            if (!firsts.isEmpty()) return tell(firsts.first(), n);
        }
        return NONE;
    }

    public int year(int r) {
        if (!in(r, 0, 5)) return BAD;
        if (houses() == 0) return STATE;
        if (rows[r] == null) return find(1);
        if (!Arrays.stream(rows[r]).allMatch(this::isSet)) return find(3);
        int water = 0;
        for (int k = 0; k < rows[r].length; k++) {
            int risen = water + ripples(rows[r][k]);
            if (risen > 60) return tell(water, k);
            water = Math.max(0, risen - town.leak);
        }
        return tell(water, rows[r].length);
    }

    // ---- 5, 6

    public int debt(int i, int j, int v) {
        if (!isHouse(i) || !isHouse(j) || i == j || !in(v, 0, 99)) return BAD;
        int was = town.owes[i][j];
        town.owes[i][j] = v;
        return was;
    }

    private int balanceOf(int i) {
        return Arrays.stream(town.owes).mapToInt(o -> o[i]).sum() - owesAll(i);
    }

    public int balance(int i) {
        return isHouse(i) ? tell(balanceOf(i), 1) : BAD;
    }

    /** The first one left settles with each other one in turn. */
    private static int settle(List<Integer> left) {
        int first = 0;
        while (first < left.size() && left.get(first) == 0) {
            first++;
        }
        if (first == left.size()) return 0;
        int fewest = Integer.MAX_VALUE;
        for (int k = first + 1; k < left.size(); k++) {
            if (left.get(k) * left.get(first) < 0) {
                List<Integer> then = new ArrayList<>(left.subList(first + 1, left.size()));
                then.set(k - first - 1, left.get(k) + left.get(first));
                fewest = Math.min(fewest, 1 + settle(then));
            }
        }
        return fewest;
    }

    public int payments() {
        List<Integer> all = new ArrayList<>();
        for (int i = 0; i < houses(); i++) {
            all.add(balanceOf(i));
        }
        return settle(all);
    }

    private int allDebts() {
        return Arrays.stream(town.owes).flatMapToInt(Arrays::stream).sum();
    }

    public int net() {
        int before = allDebts();
        for (int i = 0; i < houses(); i++) {
            for (int j = 0; j < houses(); j++) {
                while (town.owes[i][j] > 0 && town.owes[j][i] > 0) {
                    town.owes[i][j]--;
                    town.owes[j][i]--;
                }
            }
        }
        return before - allDebts();
    }

    public int crickets(int n, int seed) {
        if (!in(n, 1, 60) || !in(seed, 1, 2147483646)) return BAD;
        if (houses() == 0) return STATE;
        BigInteger lot = BigInteger.valueOf(seed);
        List<Integer> nights = new ArrayList<>();
        for (int night = 0; night < n; night++) {
            int sing = 0;
            for (int i = 0; i < houses(); i++) {
                if (!mute(i)) {
                    lot = lot.multiply(BigInteger.valueOf(48271)).mod(BigInteger.valueOf(2147483647));
                    sing += lot.mod(BigInteger.valueOf(12)).intValue() < town.houses.get(i)[1] ? 1 : 0;
                }
            }
            nights.add(sing);
        }
        return tell(nights.indexOf(Collections.max(nights)), nights.stream().mapToInt(v -> v).sum());
    }

    public int sings() {
        if (houses() == 0) return STATE;
        BigInteger silent = BigInteger.ONE;
        for (int i = 0; i < houses(); i++) {
            silent = silent.multiply(BigInteger.valueOf(mute(i) ? 12 : 12 - town.houses.get(i)[1]));
        }
        BigInteger all = BigInteger.valueOf(12).pow(houses());
        fraction(all.subtract(silent), all);
        return 1;
    }

    // ---- 7

    public int asked() {
        return asked;
    }

    public long upper() {
        return upper.longValueExact();
    }

    public long lower() {
        return lower.longValueExact();
    }

    private int[] counts() {
        int[] all = {houses(), town.sets.size(), 0, 0, 0, 0, 0, 0};
        for (int i = 0; i < houses(); i++) {
            all[2] += isOf(i, 2) ? 1 : 0;
            all[3] += isOf(i, 3) ? 1 : 0;
            all[4] += exempt(i) ? 1 : 0;
        }
        for (Town k : kept) {
            all[5] += k != null ? 1 : 0;
        }
        for (int[] row : rows) {
            all[6] += row != null ? 1 : 0;
        }
        for (byte[] text : texts) {
            all[7] += text != null ? 1 : 0;
        }
        return all;
    }

    public int count(int what) {
        return in(what, 0, 7) ? counts()[what] : BAD;
    }

    public int finding() {
        return found.isEmpty() ? 0 : found.get(found.size() - 1);
    }

    public int findings(int f) {
        return in(f, 1, 5) ? Collections.frequency(found, f) : BAD;
    }

    public long digest() {
        List<Integer> all = new ArrayList<>();
        for (int v : counts()) {
            all.add(v);
        }
        int[] now = told(town.sets.size());
        Collections.addAll(all, houses() == 0 ? 0 : town.altar, houses() == 0 ? 0 : town.leak, now[0], now[1]);
        for (int i = 0; i < houses(); i++) {
            for (int v : house(i)) {
                all.add(v);
            }
            Collections.addAll(all, allMade(i), town.houses.get(i)[3]);
            for (int v : town.owes[i]) {
                all.add(v);
            }
        }
        all.addAll(town.sets);
        for (Town k : kept) {
            all.add(k == null ? -1 : k.sets.size());
        }
        for (int[] row : rows) {
            all.add(row == null ? -1 : row.length);
            for (int k = 0; row != null && k < row.length; k++) {
                all.add(row[k]);
            }
        }
        for (byte[] text : texts) {
            all.add(text == null ? -1 : text.length);
            for (int k = 0; text != null && k < text.length; k++) {
                all.add((int) text[k]);
            }
        }
        long h = 17;
        for (int v : all) {
            h = 31 * h + v;
        }
        return h;
    }
}
