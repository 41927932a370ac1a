import java.util.ArrayList;
import java.util.Arrays;
import java.util.HashMap;
import java.util.HashSet;
import java.util.List;
import java.util.Map;
import java.util.Set;

// The document once more, in its plainest form and without a thought for speed:
// what the program answers is held against this in random runs.
final class Plain {
    static final int NONE = -1, UNKNOWN = -2, OUTSIDE = -3, NOT = -4, FULL = -5;

    // A word has a value; a sum has a map from boxes to what they told.
    static final class Item {
        int value;
        Map<Integer, Integer> sum;
    }

    final class B {
        int branch, power, p = 1, bits = 1, drift, offset, parent = NONE, count = NONE, lie = 16, place = 36, runs;
        int[] loud = new int[24];
        List<Item> row = new ArrayList<>();
        Map<Integer, Integer> sum = new HashMap<>();
        boolean said;
        Map<Integer, Integer> parts = new HashMap<>();

        boolean dead() { return power == 0; }

        void spend(int cost) { power = cost > power ? 0 : power - cost; }

        int local(int t) { return t + (int) (drift * t / 100.0) + offset; }

        boolean bit(int t) {
            int m = local(t);
            while (m < 0) m += p;
            while (m >= p) m -= p;
            return (bits & (1 << m)) != 0;
        }
    }

    List<B> bs = new ArrayList<>();
    boolean[][] hears = new boolean[10][10];
    int[] set = {0, 1, 5, 2, 1, 2, 0};
    int tick;
    int[] lost = new int[8];
    List<Integer> kept = new ArrayList<>();
    String text = "";
    String asked;
    Map<Integer, Integer> result = new HashMap<>();
    int epoch;

    boolean no(int b) { return b < 0 || b >= bs.size(); }

    int count(B b) { return b == bs.get(0) ? (b.dead() ? NONE : 0) : b.count; }

    int box(int branch, int power) {
        if (branch != 0 && branch != 1 || power < 0 || power > 30000) return OUTSIDE;
        if (bs.size() == 10) return FULL;
        B b = new B();
        b.branch = branch;
        b.power = power;
        Arrays.fill(b.loud, 16);
        bs.add(b);
        return bs.size() - 1;
    }

    int hears(int a, int b, boolean is) {
        if (no(a) || no(b) || a == b) return UNKNOWN;
        int was = hears[a][b] ? 1 : 0;
        hears[a][b] = is;
        return was;
    }

    int sleep(int box, int p, int bits) {
        if (no(box)) return UNKNOWN;
        if (p < 1 || p > 12 || bits < 0 || bits >= Math.pow(2, p)) return OUTSIDE;
        bs.get(box).p = p;
        bs.get(box).bits = bits;
        return 1;
    }

    int clock(int box, int drift, int offset) {
        if (no(box)) return UNKNOWN;
        if (Math.abs((long) drift) > 20 || Math.abs((long) offset) > 50) return OUTSIDE;
        bs.get(box).drift = drift;
        bs.get(box).offset = offset;
        return 1;
    }

    int set(int what, int v) {
        if (what < 0 || what > 6) return OUTSIDE;
        int low = what == 5 ? 1 : 0;
        int high = what < 4 ? 20 : what == 4 ? 9 : what == 5 ? 5 : 3;
        if (v < low || v > high) return OUTSIDE;
        int was = set[what];
        set[what] = v;
        return was;
    }

    int power(int box, int v) {
        if (no(box)) return UNKNOWN;
        if (v < 0 || v > 30000) return OUTSIDE;
        int was = bs.get(box).power;
        bs.get(box).power = v;
        return was;
    }

    int at(int box, int what) {
        if (no(box)) return UNKNOWN;
        B b = bs.get(box);
        if (what == 0) return b.power;
        if (what == 1) return count(b);
        if (what == 2) return b.parent;
        if (what == 3) return b.local(tick);
        if (what == 4) return !b.dead() && b.bit(tick) ? 1 : 0;
        if (what == 5) return b.row.size();
        return OUTSIDE;
    }

    int rounds(int n) {
        if (n < 1 || n > 20) return OUTSIDE;
        int changes = 0;
        for (int r = 0; r < n; r++) {
            int[] counts = new int[bs.size()], parents = new int[bs.size()];
            boolean changed = false;
            for (int i = 0; i < bs.size(); i++) {
                counts[i] = bs.get(i).count;
                parents[i] = bs.get(i).parent;
                if (i == 0 || bs.get(i).dead()) continue;
                int least = 99;
                int who = NONE;
                for (int j = bs.size() - 1; j >= 0; j--) {
                    B o = bs.get(j);
                    if (j == i || o.dead() || count(o) == NONE || !hears[i][j] || !hears[j][i]) continue;
                    if (count(o) <= least) { least = count(o); who = j; }
                }
                boolean none = who == NONE || least + 1 > 9;
                counts[i] = none ? NONE : least + 1;
                parents[i] = none ? NONE : who;
                changed |= counts[i] != bs.get(i).count || parents[i] != bs.get(i).parent;
            }
            for (int i = 0; i < bs.size(); i++) {
                bs.get(i).count = counts[i];
                bs.get(i).parent = parents[i];
            }
            if (changed) changes++;
        }
        return changes;
    }

    int rings() {
        Set<Set<Integer>> rings = new HashSet<>();
        for (int i = 0; i < bs.size(); i++) {
            Set<Integer> seen = new HashSet<>();
            int j = i;
            while (j != NONE && seen.add(j)) j = bs.get(j).parent;
            if (j == i) rings.add(seen);
        }
        return rings.size();
    }

    int say(int box, int value) {
        if (no(box)) return UNKNOWN;
        if (value < 0 || value > 999) return OUTSIDE;
        B b = bs.get(box);
        if (box == 0 || b.dead()) return NOT;
        if (b.row.size() == 4) return FULL;
        Item word = new Item();
        word.value = value;
        b.row.add(word);
        return b.row.size();
    }

    int ticks(int n) {
        if (n < 1 || n > 60 || tick + n > 9000) return OUTSIDE;
        for (int i = 0; i < n; i++) oneTick();
        return tick;
    }

    void oneTick() {
        int n = bs.size();
        boolean[] live = new boolean[n], awake = new boolean[n];
        for (int i = 0; i < n; i++) {
            B b = bs.get(i);
            if (b.dead()) continue;
            boolean bit = b.bit(tick);
            b.spend(bit ? set[1] : set[0]);
            live[i] = !b.dead();
            awake[i] = live[i] && bit;
        }
        if (asked != null && tick % every() == 0) {
            epoch = tick;
            result = new HashMap<>();
            for (int i = 0; i < n; i++) {
                B b = bs.get(i);
                if (!b.sum.isEmpty() && !b.said) lost[5]++;
                for (int k = b.row.size() - 1; k >= 0; k--) {
                    if (b.row.get(k).sum != null) { b.row.remove(k); lost[5]++; }
                }
                b.sum = new HashMap<>();
                b.said = false;
                int loud = b.loud[tick % 24];
                if (awake[i] && loud != 16 && meets(loud, i)) (i == 0 ? result : b.sum).put(i, b.lie == 16 ? loud : b.lie);
            }
        }
        int deepest = NONE;
        for (B b : bs) deepest = Math.max(deepest, count(b));
        for (int i = 0; i < n; i++) {
            B b = bs.get(i);
            if (b.parent == NONE || !awake[i] || b.sum.isEmpty() || b.said || b.row.size() >= 4) continue;
            if (tick - epoch >= set[4] * (deepest - b.count)) {
                Item sum = new Item();
                sum.sum = new HashMap<>(b.sum);
                b.row.add(sum);
                b.said = true;
            }
        }
        Map<Integer, Item> said = new HashMap<>();
        for (int i = 0; i < n; i++) {
            B b = bs.get(i);
            if (b.parent == NONE || !awake[i] || b.row.isEmpty()) continue;
            said.put(i, b.row.remove(0));
            b.spend(set[2]);
            lost[7]++;
        }
        Set<Integer> got = new HashSet<>();
        for (int i = 0; i < n; i++) {
            if (!awake[i] || said.containsKey(i)) continue;
            List<Integer> heard = new ArrayList<>();
            for (int s : said.keySet()) if (hears[i][s]) heard.add(s);
            if (heard.isEmpty()) continue;
            bs.get(i).spend(set[3]);
            if (heard.size() == 1 && bs.get(heard.get(0)).parent == i) {
                got.add(heard.get(0));
                get(i, said.get(heard.get(0)));
            }
        }
        for (int s : said.keySet()) {
            if (got.contains(s)) continue;
            int p = bs.get(s).parent;
            lost[!live[p] ? 0 : !hears[p][s] ? 1 : !awake[p] ? 2 : 3]++;
        }
        tick++;
    }

    void get(int i, Item item) {
        B b = bs.get(i);
        if (i == 0) {
            lost[6]++;
            if (item.sum != null) result.putAll(item.sum);
            else {
                kept.add(item.value);
                if (kept.size() > 12) kept.remove(0);
            }
        } else if (item.sum != null && b.branch == 1 && !b.said) {
            b.sum.putAll(item.sum);
        } else if (b.row.size() < 4) {
            b.row.add(item);
        } else {
            lost[4]++;
        }
    }

    int lost(int cause) { return cause < 0 || cause > 7 ? OUTSIDE : lost[cause]; }

    int kept(int i) { return i < 0 ? OUTSIDE : i >= kept.size() ? NONE : kept.get(kept.size() - 1 - i); }

    int write(long bytes, int n) {
        if (n < 1 || n > 8) return OUTSIDE;
        if (text.length() + n > 120) return FULL;
        for (int i = 0; i < n; i++) text += (char) ((bytes >>> (8 * i)) & 255);
        return text.length();
    }

    int erase() {
        int was = text.length();
        text = "";
        return was;
    }

    // By what may stand next, place for place: a row of states instead of a descent.
    int fault() {
        int i = 0;
        String state = "begin";
        int conds = 0;
        while (true) {
            while (i < text.length() && text.charAt(i) == ' ') i++;
            if (i == text.length()) return state.equals("over") ? NONE : i;
            int j = i + 1;
            String kind = kind(text.charAt(i));
            while (j < text.length() && !kind.isEmpty() && kind(text.charAt(j)).equals(kind)) j++;
            String token = text.substring(i, j);
            boolean number = kind.equals("digit") && token.length() <= 2;
            String next = null;
            switch (state) {
                case "begin":
                    if (token.equals("count")) next = "aimed";
                    if (List.of("least", "most", "mean").contains(token)) next = "aim";
                    break;
                case "aim":
                    if (token.equals("loud")) next = "aimed";
                    break;
                case "aimed":
                    if (token.equals("where")) next = "cond";
                    if (token.equals("every")) next = "every";
                    break;
                case "cond":
                    if (token.equals("loud") || token.equals("box")) next = "side";
                    break;
                case "side":
                    if (token.equals("above") || token.equals("below")) next = "limit";
                    break;
                case "limit":
                    if (number) { next = "told"; conds++; }
                    break;
                case "told":
                    if (token.equals("and") && conds < 8) next = "cond";
                    if (token.equals("every")) next = "every";
                    break;
                case "every":
                    if (number && Integer.parseInt(token) >= 1 && Integer.parseInt(token) <= 60) next = "over";
                    break;
                default:
            }
            if (next == null) return i;
            state = next;
            i = j;
        }
    }

    static String kind(char c) { return c >= 'a' && c <= 'z' ? "letter" : c >= '0' && c <= '9' ? "digit" : ""; }

    // The question with one blank between its tokens.
    static String[] tokens(String text) {
        return text.replaceAll("([a-z]+|[0-9]+)", "$1 ").trim().split(" +");
    }

    int every() {
        String[] t = tokens(asked);
        return Integer.parseInt(t[t.length - 1]);
    }

    boolean meets(int loud, int box) {
        String[] t = tokens(asked);
        for (int i = 1; i < t.length; i++) {
            boolean above = t[i].equals("above");
            if (!above && !t[i].equals("below")) continue;
            int v = t[i - 1].equals("box") ? box : loud;
            int limit = Integer.parseInt(t[i + 1]);
            if (above && !(v > limit) || !above && !(v < limit)) return false;
        }
        return true;
    }

    int ask() {
        if (fault() != NONE) return NOT;
        asked = text;
        text = "";
        result = new HashMap<>();
        for (B b : bs) {
            b.sum = new HashMap<>();
            b.said = false;
            b.row.removeIf(item -> item.sum != null);
        }
        return every();
    }

    int loud(int box, int hour, int v) {
        if (no(box)) return UNKNOWN;
        if (hour < 0 || hour > 23 || v < 0 || v > 16) return OUTSIDE;
        int was = bs.get(box).loud[hour];
        bs.get(box).loud[hour] = v;
        return was;
    }

    int lies(int box, int v) {
        if (no(box)) return UNKNOWN;
        if (v < 0 || v > 16) return OUTSIDE;
        int was = bs.get(box).lie;
        bs.get(box).lie = v;
        return was;
    }

    int result(int what) {
        if (what < 0 || what > 6) return OUTSIDE;
        if (asked == null) return NOT;
        int least = NONE, most = NONE, all = 0, whom = 0;
        for (Map.Entry<Integer, Integer> e : result.entrySet()) {
            int v = e.getValue();
            least = least == NONE ? v : Math.min(least, v);
            most = Math.max(most, v);
            all += v;
            whom += 1 << e.getKey();
        }
        int many = result.size();
        if (what < 5) return new int[] {least, most, many, all, whom}[what];
        String aim = tokens(asked)[0];
        if (aim.equals("count")) return what == 5 ? many : 1;
        if (many == 0) return NONE;
        if (aim.equals("mean")) {
            int d = Math.max(many, all);
            while (many % d != 0 || all % d != 0) d--;
            return what == 5 ? all / d : many / d;
        }
        return what == 6 ? 1 : aim.equals("least") ? least : most;
    }

    int[] parentsNow() {
        int[] parents = new int[bs.size()];
        for (int i = 0; i < bs.size(); i++) parents[i] = bs.get(i).parent;
        return parents;
    }

    // What each tick from now on takes of a box, by these parents.
    int tickCost(int box, int t, int[] parents) {
        int cost = bs.get(box).bit(t) ? set[1] : set[0];
        if (asked == null || t % every() != 0) return cost;
        if (parents[box] != NONE) cost += set[2];
        for (int p : parents) if (p == box) cost += set[3];
        return cost;
    }

    int foretold(int box, int n) {
        if (no(box)) return UNKNOWN;
        if (n < 0 || n > 1000) return OUTSIDE;
        int sum = 0;
        for (int i = 0; i < n; i++) sum += tickCost(box, tick + i, parentsNow());
        return sum;
    }

    int lifeBy(int box, int[] parents) {
        int sum = 0;
        for (int n = 0; n < 1000; n++) {
            sum += tickCost(box, tick + n, parents);
            if (sum > bs.get(box).power) return n;
        }
        return 1000;
    }

    int life(int box) { return no(box) ? UNKNOWN : lifeBy(box, parentsNow()); }

    int bestLife;
    int[] bestTree;
    Map<Integer, Integer> lifeMemo;

    int longest() {
        int n = bs.size();
        bestLife = NONE;
        bestTree = new int[n];
        Arrays.fill(bestTree, NONE);
        lifeMemo = new HashMap<>();
        int[] steps = new int[n];
        Arrays.fill(steps, 99);
        if (n > 0 && !bs.get(0).dead()) steps[0] = 0;
        for (int r = 0; r < n; r++)
            for (int i = 0; i < n; i++)
                for (int j = 0; j < n; j++)
                    if (near(i, j)) steps[i] = Math.min(steps[i], steps[j] + 1);
        int[] parents = new int[n];
        Arrays.fill(parents, NONE);
        trees(1, steps, parents);
        return bestLife;
    }

    boolean near(int i, int j) { return hears[i][j] && hears[j][i] && !bs.get(i).dead() && !bs.get(j).dead(); }

    void trees(int i, int[] steps, int[] parents) {
        if (i < bs.size() && steps[i] > 0 && steps[i] < 99) {
            for (int j = 0; j < bs.size(); j++) {
                if (!near(i, j) || steps[j] != steps[i] - 1) continue;
                parents[i] = j;
                trees(i + 1, steps, parents);
            }
            return;
        }
        if (i < bs.size()) {
            trees(i + 1, steps, parents);
            return;
        }
        int least = 9999;
        for (int b = 0; b < bs.size(); b++) {
            if (bs.get(b).dead()) continue;
            int children = 0;
            for (int p : parents) if (p == b) children++;
            int key = b * 100 + children;
            if (!lifeMemo.containsKey(key)) lifeMemo.put(key, lifeBy(b, parents));
            least = Math.min(least, lifeMemo.get(key));
        }
        if (least < 9999 && least > bestLife) {
            bestLife = least;
            bestTree = parents.clone();
        }
    }

    int best(int box) {
        if (no(box)) return UNKNOWN;
        longest();
        return bestTree[box];
    }

    List<int[]> facts = new ArrayList<>();

    int fact(int by, int a, int b, int lo, int hi) {
        if (no(by) || no(a) || no(b) || a == b) return UNKNOWN;
        if (lo < -999 || lo > 999 || hi < -999 || hi > 999 || lo > hi) return OUTSIDE;
        if (facts.size() == 20) return FULL;
        facts.add(new int[] {by, a, b, lo, hi});
        return facts.size();
    }

    // How far ahead of 'from' each clock may be at most; null if the facts cannot all be.
    long[] spread(int from, Set<Integer> without) {
        int n = bs.size();
        long far = 1000000;
        for (int s = -1; s < n; s++) {
            long[] d = new long[n];
            Arrays.fill(d, s < 0 ? 0 : far);
            if (s >= 0) d[s] = 0;
            boolean moved = true;
            for (int r = 0; r <= n && moved; r++) {
                moved = false;
                for (int[] f : facts) {
                    if (without.contains(f[0])) continue;
                    if (d[f[1]] < far / 2 && d[f[1]] + f[4] < d[f[2]]) { d[f[2]] = d[f[1]] + f[4]; moved = true; }
                    if (d[f[2]] < far / 2 && d[f[2]] - f[3] < d[f[1]]) { d[f[1]] = d[f[2]] - f[3]; moved = true; }
                }
            }
            if (moved) return null;
            if (s == from) {
                for (int i = 0; i < n; i++) if (d[i] > far / 2) d[i] = 9999;
                return d;
            }
        }
        return null;
    }

    int hour(int box, int m, int way) {
        if (no(box) || m < 0 || m > 2 || way < 0 || way > 1) return Integer.MIN_VALUE;
        Set<Set<Integer>> sets = new HashSet<>();
        for (int i = 0; i < bs.size(); i++) {
            for (int j = 0; j < bs.size(); j++) {
                Set<Integer> s = new HashSet<>();
                if (m > 0) s.add(i);
                if (m > 1) s.add(j);
                s.remove(0);
                sets.add(s);
            }
        }
        sets.add(new HashSet<>());
        long least = Long.MAX_VALUE, greatest = Long.MIN_VALUE;
        for (Set<Integer> s : sets) {
            long[] up = spread(0, s);
            if (up == null) continue;
            greatest = Math.max(greatest, up[box]);
            least = Math.min(least, -spread(box, s)[0]);
        }
        if (least == Long.MAX_VALUE) return Integer.MIN_VALUE;
        return (int) (way == 0 ? least : greatest);
    }

    int place(int box, int cell) {
        if (no(box)) return UNKNOWN;
        if (cell < 0 || cell > 36) return OUTSIDE;
        int was = bs.get(box).place;
        bs.get(box).place = cell;
        return was;
    }

    long cells(int box, int m) {
        if (no(box)) return UNKNOWN;
        if (m < 0 || m > 2) return OUTSIDE;
        long bits = 0;
        for (int y = 0; y < 6; y++) {
            for (int x = 0; x < 6; x++) {
                int against = 0;
                for (int o = 0; o < bs.size(); o++) {
                    int c = bs.get(o).place;
                    if (o == box || c == 36) continue;
                    double far = Math.hypot(x - c % 6, y - c / 6);
                    if ((hears[o][box] || hears[box][o]) != far <= set[5] + 1e-9) against++;
                }
                if (against <= m) bits |= 1L << (6 * y + x);
            }
        }
        return bits;
    }

    int programs, size, mark;

    int program(int n, long values) {
        if (n < 1 || n > 8) return OUTSIDE;
        if (bs.isEmpty()) return NOT;
        size = n;
        for (B b : bs) b.parts.clear();
        for (int i = 0; i < n; i++) bs.get(0).parts.put(i, (int) ((values >>> (8 * i)) & 255));
        mark = sum(bs.get(0));
        return ++programs;
    }

    int sum(B b) { return b.parts.values().stream().mapToInt(v -> v).sum() % 251; }

    boolean sound(B b) { return programs > 0 && b.parts.size() == size && sum(b) == mark; }

    int hand() {
        int n = bs.size(), handed = 0;
        List<Map<Integer, Integer>> ahead = new ArrayList<>();
        boolean[] dead = new boolean[n];
        for (int i = 0; i < n; i++) {
            ahead.add(new HashMap<>(bs.get(i).parts));
            dead[i] = bs.get(i).dead();
        }
        for (int i = 1; i < n; i++) {
            if (dead[i]) continue;
            int part = 99, giver = 99;
            for (int j = n - 1; j >= 0; j--) {
                if (dead[j] || j == i || !hears[i][j]) continue;
                for (int p : ahead.get(j).keySet()) {
                    if (ahead.get(i).containsKey(p) || p > part) continue;
                    part = p;
                    giver = j;
                }
            }
            if (part == 99) continue;
            bs.get(i).parts.put(part, ahead.get(giver).get(part));
            bs.get(i).spend(set[3]);
            bs.get(giver).spend(set[2]);
            handed++;
        }
        return handed;
    }

    int tear(int box, int part, int v) {
        if (no(box) || box == 0 || part < 0 || part >= size) return UNKNOWN;
        if (v < 0 || v > 255) return OUTSIDE;
        Integer was = bs.get(box).parts.get(part);
        if (was == null) return NOT;
        bs.get(box).parts.put(part, v);
        return was;
    }

    int has(int box, int what) {
        if (no(box)) return UNKNOWN;
        if (what < 0 || what > 2) return OUTSIDE;
        B b = bs.get(box);
        if (what == 0) return b.parts.keySet().stream().mapToInt(p -> 1 << p).sum();
        return what == 1 ? (sound(b) ? 1 : 0) : b.runs;
    }

    int begin(int area) {
        if (area < 0 || area >= 1 << bs.size()) return OUTSIDE;
        if (programs == 0) return NOT;
        List<B> in = new ArrayList<>();
        for (int i = 0; i < bs.size(); i++) if ((area & 1 << i) != 0 && !bs.get(i).dead()) in.add(bs.get(i));
        for (B b : in) if (!sound(b)) return 0;
        for (B b : in) b.runs = programs;
        return in.size();
    }

    int days = 4, misses, liars;
    boolean[][] ways = new boolean[6][6];
    int[] ears = new int[6];
    int[][] logs = tornLogs();

    static int[][] tornLogs() {
        int[][] logs = new int[6][5];
        for (int[] log : logs) Arrays.fill(log, 2);
        return logs;
    }

    int days(int t) {
        if (t < 1 || t > 5) return OUTSIDE;
        int was = days;
        days = t;
        logs = tornLogs();
        return was;
    }

    int way(int a, int b, boolean is) {
        if (a < 0 || a > 5 || b < 0 || b > 5 || a == b) return UNKNOWN;
        int was = ways[a][b] ? 1 : 0;
        ways[a][b] = is;
        ways[b][a] = is;
        return was;
    }

    int ear(int ear, int spots) {
        if (ear < 0 || ear > 5) return UNKNOWN;
        if (spots < 0 || spots > 63) return OUTSIDE;
        int was = ears[ear];
        ears[ear] = spots;
        return was;
    }

    int log(int ear, int t, int v) {
        if (ear < 0 || ear > 5 || t < 0 || t >= days) return UNKNOWN;
        if (v < 0 || v > 2) return OUTSIDE;
        int was = logs[ear][t];
        logs[ear][t] = v;
        return was;
    }

    int liars(int s) {
        if (s < 0 || s > 63) return OUTSIDE;
        int was = liars;
        liars = s;
        return was;
    }

    boolean hears(int ear, int spot) { return (ears[ear] & 1 << spot) != 0; }

    List<int[]> agreeing(int leftOut) {
        List<int[]> found = new ArrayList<>();
        int all = (int) Math.round(Math.pow(6, days));
        for (int k = 0; k < all; k++) {
            int[] c = new int[days];
            for (int t = days - 1, rest = k; t >= 0; t--, rest /= 6) c[t] = rest % 6;
            boolean ok = true;
            int missed = 0;
            for (int t = 0; t < days; t++) {
                if (t > 0 && c[t] != c[t - 1] && !ways[c[t]][c[t - 1]]) ok = false;
                for (int e = 0; e < 6; e++) {
                    if ((leftOut & 1 << e) != 0) continue;
                    if (logs[e][t] == 1 && !hears(e, c[t])) ok = false;
                    if (logs[e][t] == 0 && hears(e, c[t])) missed++;
                }
            }
            if (ok && missed <= set[6]) found.add(c);
        }
        return found;
    }

    int courses() { return agreeing(liars).size(); }

    int course(int k, int i) {
        if (i < 0 || i >= days || k < 0) return UNKNOWN;
        List<int[]> found = agreeing(liars);
        return k >= found.size() ? UNKNOWN : found.get(k)[i];
    }

    int refused(int sort, int c, int d, int a, int b) {
        if (c < 0 || c > 5 || a < 0 || a >= days || b < 0 || b >= days) return UNKNOWN;
        if (sort == 1 && (d < 0 || d > 5)) return UNKNOWN;
        return sort < 0 || sort > 1 || sort == 0 && d != 0 || a > b ? OUTSIDE : 0;
    }

    boolean so(int[] course, int sort, int c, int d, int a, int b) {
        for (int i = a; i <= b; i++) {
            if (course[i] != c) continue;
            if (sort == 0) return true;
            for (int j = i + 1; j <= b; j++) if (course[j] == d) return true;
        }
        return false;
    }

    int judge(int sort, int c, int d, int a, int b) {
        int no = refused(sort, c, d, a, b);
        if (no != 0) return no;
        List<int[]> found = agreeing(liars);
        if (found.isEmpty()) return 3;
        long by = found.stream().filter(x -> so(x, sort, c, d, a, b)).count();
        return by == found.size() ? 1 : by == 0 ? 0 : 2;
    }

    List<Integer> setsInOrder() {
        List<Integer> sets = new ArrayList<>();
        for (int s = 0; s < 64; s++) if ((s & liars) == 0) sets.add(s);
        sets.sort((x, y) -> Integer.bitCount(x) != Integer.bitCount(y) ? Integer.bitCount(x) - Integer.bitCount(y) : x - y);
        return sets;
    }

    int quarrel() {
        for (int s : setsInOrder()) if (!agreeing(liars | s).isEmpty()) return s;
        return NONE;
    }

    int settle(int sort, int c, int d, int a, int b) {
        int no = refused(sort, c, d, a, b);
        if (no != 0) return no;
        List<int[]> found = agreeing(liars);
        for (int s : setsInOrder()) {
            Map<String, Boolean> told = new HashMap<>();
            boolean settled = true;
            for (int[] x : found) {
                StringBuilder heard = new StringBuilder();
                for (int e = 0; e < 6; e++)
                    for (int t = 0; t < days; t++)
                        if ((s & 1 << e) != 0 && logs[e][t] == 2) heard.append(hears(e, x[t]) ? '1' : '0');
                boolean so = so(x, sort, c, d, a, b);
                Boolean other = told.putIfAbsent(heard.toString(), so);
                if (other != null && other != so) { settled = false; break; }
            }
            if (settled) return s;
        }
        return NONE;
    }

    int count(int what) {
        switch (what) {
            case 0: return bs.size();
            case 1: return (int) bs.stream().filter(b -> !b.dead()).count();
            case 2: return tick;
            case 3: return text.length();
            case 4: return facts.size();
            case 5: return programs;
            case 6: return days;
            default: return OUTSIDE;
        }
    }
}
