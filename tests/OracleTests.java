import java.util.ArrayDeque;
import java.util.ArrayList;
import java.util.Collections;
import java.util.HashSet;
import java.util.List;
import java.util.Random;
import java.util.Set;

/** Long runs of chosen-by-seed calls, each answer held against a plain model that tries all there is to try. */
public final class OracleTests {
    private static final int NONE = -1;
    private static int wrong = 0;
    private static long asked = 0;

    /** The document's words, done the slow way. */
    static final class Model {
        int n = 6;
        List<Integer> sets = new ArrayList<>();
        final ArrayDeque<List<Integer>> acts = new ArrayDeque<>();
        final StringBuilder tape = new StringBuilder();
        private List<Integer> flowersOf = null;
        private final List<Integer> flowerMasks = new ArrayList<>();

        int full() { return (1 << n) - 1; }
        boolean isPoint(int p) { return p >= 0 && p < n; }
        boolean arePoints(int b) { return b >= 0 && (b & ~full()) == 0; }
        boolean areSets(int b) { return b >= 0 && (b & ~((1 << sets.size()) - 1)) == 0; }
        static int size(int b) { return Integer.bitCount(b); }

        void act(List<Integer> after) {
            acts.addLast(new ArrayList<>(sets));
            if (acts.size() > 12) acts.removeFirst();
            sets = new ArrayList<>(after);
        }

        int feed(int[] five) {
            if (tape.length() + 20 > 400) return NONE;
            for (int w : five) for (int s = 24; s >= 0; s -= 8) tape.append((char) (w >> s & 255));
            return tape.length();
        }
        int back(int k) {
            if (k < 0 || k > tape.length()) return NONE;
            tape.setLength(tape.length() - k);
            return tape.length();
        }

        /** Pieces of the text: its words, letters and digits whole, all other bytes alone. */
        private static List<int[]> pieces(String t) {
            List<int[]> all = new ArrayList<>();
            int i = 0;
            while (i < t.length()) {
                char c = t.charAt(i);
                int j = i + 1;
                if (c >= 'a' && c <= 'z') while (j < t.length() && t.charAt(j) >= 'a' && t.charAt(j) <= 'z') j++;
                else if (c >= '0' && c <= '9') while (j < t.length() && t.charAt(j) >= '0' && t.charAt(j) <= '9') j++;
                if (c != ' ' && c != '\n') all.add(new int[] {i, j});
                i = j;
            }
            return all;
        }
        int text() {
            String t = tape.toString();
            tape.setLength(0);
            List<int[]> pieces = pieces(t);
            int points = 6;
            List<Integer> told = new ArrayList<>();
            // 0 at the start, 1 behind points, 2 behind N, 3 behind set, 4 behind LETTERS, 5 behind ;
            int state = 0;
            int end = -1;
            for (int[] p : pieces) {
                String s = t.substring(p[0], p[1]);
                boolean letters = s.charAt(0) >= 'a' && s.charAt(0) <= 'z';
                boolean digits = s.charAt(0) >= '0' && s.charAt(0) <= '9';
                boolean glued = p[0] == end;
                boolean good = false;
                switch (state) {
                    case 0: case 5:
                        if (state == 0 && s.equals("points")) { good = true; state = 1; }
                        else if (s.equals("set") && told.size() < 16) { good = true; state = 3; }
                        break;
                    case 1:
                        if (digits && !glued && s.length() <= 2) {
                            int v = Integer.parseInt(s);
                            if (v >= 1 && v <= 10) { good = true; points = v; state = 2; }
                        }
                        break;
                    case 3:
                        if (letters && !glued) {
                            int b = 0;
                            boolean ok = true;
                            for (char c : s.toCharArray()) {
                                int q = c - 'a';
                                if (q >= points || (b >> q & 1) == 1) ok = false;
                                b |= 1 << q;
                            }
                            if (ok && !told.contains(b)) { told.add(b); good = true; state = 4; }
                        }
                        break;
                    default:
                        if (s.equals(";")) { good = true; state = 5; }
                }
                if (!good) return -4 - p[0];
                end = p[1];
            }
            if (state != 0 && state != 5) return -4 - t.length();
            n = points;
            sets = told;
            acts.clear();
            return sets.size();
        }

        int add(int s) {
            if (s == 0 || !arePoints(s) || sets.contains(s) || sets.size() >= 16) return NONE;
            List<Integer> a = new ArrayList<>(sets); a.add(s); act(a);
            return sets.size() - 1;
        }
        int drop(int i) {
            if (i < 0 || i >= sets.size()) return 0;
            List<Integer> a = new ArrayList<>(sets); a.remove(i); act(a);
            return 1;
        }
        int change(int i, int s) {
            if (i < 0 || i >= sets.size() || s == 0 || !arePoints(s) || sets.contains(s)) return NONE;
            int was = sets.get(i);
            List<Integer> a = new ArrayList<>(sets); a.set(i, s); act(a);
            return was;
        }
        private int moved(int[] to) {
            List<Integer> a = new ArrayList<>();
            int changed = 0;
            for (int s : sets) {
                int r = 0;
                for (int p = 0; p < n; p++) if ((s >> p & 1) == 1) r |= 1 << to[p];
                if (r != s) changed++;
                a.add(r);
            }
            if (changed == 0) return NONE;
            act(a);
            return changed;
        }
        int swap(int x, int y) {
            if (!isPoint(x) || !isPoint(y) || x == y) return NONE;
            int[] to = new int[n];
            for (int p = 0; p < n; p++) to[p] = p == x ? y : p == y ? x : p;
            return moved(to);
        }
        int turn() {
            int[] to = new int[n];
            for (int p = 0; p < n; p++) to[p] = (p + 1) % n;
            return moved(to);
        }
        int without(int x) {
            if (!isPoint(x) || degree(x) == 0) return NONE;
            List<Integer> a = new ArrayList<>();
            for (int s : sets) { int r = s & ~(1 << x); if (r != 0 && !a.contains(r)) a.add(r); }
            act(a);
            return sets.size();
        }
        int only(int x, boolean with) {
            if (!isPoint(x)) return NONE;
            List<Integer> a = new ArrayList<>();
            for (int s : sets) if ((s >> x & 1) == 1 == with) a.add(s);
            int went = sets.size() - a.size();
            if (went == 0) return NONE;
            act(a);
            return went;
        }
        int join(int x, int y) {
            if (!isPoint(x) || !isPoint(y) || x == y || degree(y) == 0) return NONE;
            List<Integer> a = new ArrayList<>();
            for (int s : sets) {
                int r = s;
                if ((s >> y & 1) == 1) r = (s - (1 << y)) | 1 << x;
                if (!a.contains(r)) a.add(r);
            }
            act(a);
            return sets.size();
        }
        int flip() {
            if (sets.isEmpty()) return NONE;
            List<Integer> a = new ArrayList<>();
            for (int s : sets) if (s != full()) a.add(full() - s);
            act(a);
            return sets.size();
        }
        int reduce(int b) {
            if (b < 1 || b > 5) return NONE;
            Run r = new Run(sets, b);
            if (r.lost) return -2;
            if (r.end.equals(sets)) return NONE;
            act(r.end);
            return sets.size();
        }
        int thin(int k) {
            if (k < 2 || k > 16) return NONE;
            int stay = most(k);
            List<Integer> a = new ArrayList<>();
            for (int i = 0; i < sets.size(); i++) if ((stay >> i & 1) == 1) a.add(sets.get(i));
            int went = sets.size() - a.size();
            if (went == 0) return NONE;
            act(a);
            return went;
        }
        int undo() {
            if (acts.isEmpty()) return NONE;
            sets = acts.removeLast();
            return acts.size();
        }

        int set(int i, int what) {
            if (i < 0 || i >= sets.size() || what < 0 || what > 3) return NONE;
            int s = sets.get(i);
            if (what == 0) return s;
            if (what == 1) return size(s);
            int r = 0;
            for (int j = 0; j < sets.size(); j++) {
                if (j == i) continue;
                int o = sets.get(j);
                if (what == 2 && (s | o) == o) r += 1 << j;
                if (what == 3 && (s & o) > 0) r += 1 << j;
            }
            return r;
        }
        int degree(int x) {
            if (!isPoint(x)) return NONE;
            int d = 0;
            for (int s : sets) d += s >> x & 1;
            return d;
        }
        int having(int b) {
            if (!arePoints(b)) return NONE;
            int r = 0;
            for (int i = 0; i < sets.size(); i++) if ((sets.get(i) | b) == sets.get(i)) r |= 1 << i;
            return r;
        }

        static int core(List<Integer> f, int mask) {
            int c = -2;
            for (int i = 0; i < f.size(); i++) for (int j = i + 1; j < f.size(); j++) {
                if ((mask >> i & mask >> j & 1) == 0) continue;
                int m = f.get(i) & f.get(j);
                if (c == -2) c = m; else if (c != m) return -2;
            }
            return c;
        }
        /** All sunflowers by rising bits; a mask is one only if it is a pair, or is one without its highest set. */
        static List<Integer> allFlowers(List<Integer> f) {
            List<Integer> r = new ArrayList<>();
            boolean[] is = new boolean[1 << f.size()];
            for (int m = 0; m < 1 << f.size(); m++) {
                if (size(m) < 2) continue;
                if (size(m) > 2 && !is[m & ~Integer.highestOneBit(m)]) continue;
                is[m] = core(f, m) != -2;
                if (is[m]) r.add(m);
            }
            return r;
        }
        List<Integer> flowerMasks() {
            if (flowersOf == null || !flowersOf.equals(sets)) {
                flowersOf = new ArrayList<>(sets);
                flowerMasks.clear();
                flowerMasks.addAll(allFlowers(sets));
            }
            return flowerMasks;
        }
        static int first(List<Integer> masks) {
            int best = -2;
            for (int m : masks) if (best == -2 || size(m) > size(best) || size(m) == size(best) && m < best) best = m;
            return best;
        }
        static int greatestSize(List<Integer> f) {
            int b = first(allFlowers(f));
            return b == -2 ? -2 : size(b);
        }
        int isFlower(int m) { return !areSets(m) ? NONE : core(sets, m) == -2 ? 0 : 1; }
        int core(int m) { return !areSets(m) ? NONE : core(sets, m); }
        int greatest(int what) {
            if (what < 0 || what > 2) return NONE;
            int b = first(flowerMasks());
            if (b == -2) return -2;
            return what == 0 ? b : what == 1 ? size(b) : core(sets, b);
        }
        int flower(int k) {
            if (k < 2 || k > 16) return NONE;
            for (int m : flowerMasks()) if (size(m) == k) return m;
            return -2;
        }
        int flowers(int k) {
            if (k < 2 || k > 16) return NONE;
            int c = 0;
            for (int m : flowerMasks()) if (size(m) == k) c++;
            return c;
        }
        int byCore(int b, int what) {
            if (!arePoints(b) || what < 0 || what > 1) return NONE;
            List<Integer> with = new ArrayList<>();
            for (int m : flowerMasks()) if (core(sets, m) == b) with.add(m);
            int f = first(with);
            return f == -2 ? -2 : what == 0 ? size(f) : f;
        }
        int cores(int k) {
            if (k < 2 || k > 16) return NONE;
            Set<Integer> c = new HashSet<>();
            for (int m : flowerMasks()) if (size(m) == k) c.add(core(sets, m));
            return c.size();
        }
        int most(int k) {
            if (k < 2 || k > 16) return NONE;
            boolean[] bad = new boolean[1 << sets.size()];
            for (int m : flowerMasks()) if (size(m) == k) bad[m] = true;
            int best = 0;
            for (int m = 0; m < bad.length; m++) {
                for (int i = 0; i < sets.size() && !bad[m]; i++) if ((m >> i & 1) == 1 && bad[m - (1 << i)]) bad[m] = true;
                if (!bad[m] && size(m) > size(best)) best = m;
            }
            return best;
        }
        int surplus(int k) {
            if (k < 2 || k > 16) return NONE;
            return sets.size() - size(most(k));
        }
        int uneven(int m) {
            if (!areSets(m)) return NONE;
            int c = core(sets, m);
            if (c == -2) return -2;
            for (int i = 0; i < sets.size(); i++) for (int j = i + 1; j < sets.size(); j++)
                if ((m >> i & m >> j & 1) == 1 && size(sets.get(i) & ~c) != size(sets.get(j) & ~c)) return 100 * i + j;
            return -2;
        }
        int pairs(int p) {
            if (p < 0 || p > 10) return NONE;
            int c = 0;
            for (int i = 0; i < sets.size(); i++) for (int j = 0; j < i; j++) if (size(sets.get(i) & sets.get(j)) == p) c++;
            return c;
        }
        int parts() {
            int[] part = new int[sets.size()];
            for (int i = 0; i < part.length; i++) part[i] = i;
            for (int i = 0; i < part.length; i++) for (int j = 0; j < part.length; j++) {
                if ((sets.get(i) & sets.get(j)) == 0) continue;
                int from = part[i], to = part[j];
                for (int l = 0; l < part.length; l++) if (part[l] == from) part[l] = to;
            }
            Set<Integer> s = new HashSet<>();
            for (int p : part) s.add(p);
            return s.size();
        }
        int ranked(int k) {
            if (k < 0 || k >= n) return NONE;
            List<Integer> order = new ArrayList<>();
            for (int p = 0; p < n; p++) order.add(p);
            order.sort((x, y) -> degree(x) != degree(y) ? degree(y) - degree(x) : x - y);
            return order.get(k);
        }
        List<Integer> bySize() {
            List<Integer> all = new ArrayList<>();
            for (int b = 1; b <= full(); b++) all.add(b);
            all.sort((x, y) -> size(x) != size(y) ? size(x) - size(y) : x - y);
            return all;
        }
        int spread(int p, int q) {
            if (p < 1 || p > 9 || q < 1 || q > 9) return NONE;
            for (int b : bySize()) {
                long left = size(having(b)), right = sets.size();
                for (int i = 0; i < size(b); i++) { left *= p; right *= q; }
                if (left > right) return -100 - b;
            }
            return 1;
        }
        int spreadest() {
            if (sets.isEmpty()) return -2;
            for (int p = 9; p >= 1; p--) if (spread(p, 1) == 1) return p;
            return -2;
        }
        int bound(int w, int k) {
            if (w < 1 || w > 10 || k < 2 || k > 16) return NONE;
            java.math.BigInteger r = java.math.BigInteger.valueOf(k - 1).pow(w);
            for (int i = 2; i <= w; i++) r = r.multiply(java.math.BigInteger.valueOf(i));
            return r.min(java.math.BigInteger.valueOf(1000000000)).intValue();
        }
        int sized(int w) {
            if (w < 0 || w > 10) return NONE;
            int c = 0;
            for (int s : sets) if (size(s) == w) c++;
            return c;
        }

        boolean hitsAll(int b) {
            for (int s : sets) if ((s & b) == 0) return false;
            return true;
        }
        int hits(int b) { return !arePoints(b) ? NONE : hitsAll(b) ? 1 : 0; }
        int missed(int b) {
            if (!arePoints(b)) return NONE;
            int r = 0;
            for (int i = 0; i < sets.size(); i++) if ((sets.get(i) & b) == 0) r |= 1 << i;
            return r;
        }
        int hitter(int what) {
            if (what < 0 || what > 3) return NONE;
            int few = 99;
            for (int b = 0; b <= full(); b++) if (hitsAll(b)) few = Math.min(few, size(b));
            List<Integer> all = new ArrayList<>();
            for (int b = 0; b <= full(); b++) if (hitsAll(b) && size(b) == few) all.add(b);
            if (what == 0) return few;
            if (what == 1) return Collections.min(all);
            if (what == 2) return all.size();
            int r = full();
            for (int b : all) r &= b;
            return r;
        }
        int tight(int k) {
            if (k < -1) return NONE;
            List<Integer> all = new ArrayList<>();
            for (int b = 0; b <= full(); b++) {
                boolean t = hitsAll(b);
                for (int p = 0; p < n; p++) if ((b >> p & 1) == 1 && hitsAll(b - (1 << p))) t = false;
                if (t) all.add(b);
            }
            return k == -1 ? all.size() : k < all.size() ? all.get(k) : -2;
        }
        int greedy(int what) {
            if (what < 0 || what > 2) return NONE;
            List<Integer> open = new ArrayList<>(sets), took = new ArrayList<>();
            while (!open.isEmpty()) {
                int best = -1, most = -1;
                for (int p = 0; p < n; p++) {
                    int c = 0;
                    for (int s : open) c += s >> p & 1;
                    if (c > most) { most = c; best = p; }
                }
                took.add(best);
                final int b = best;
                open.removeIf(s -> (s >> b & 1) == 1);
            }
            int bits = 0;
            for (int p : took) bits |= 1 << p;
            return what == 0 ? took.size() : what == 1 ? bits : took.isEmpty() ? -2 : took.get(0);
        }
        boolean areApart(int m) {
            int seen = 0;
            for (int i = 0; i < sets.size(); i++) if ((m >> i & 1) == 1) {
                if ((seen & sets.get(i)) != 0) return false;
                seen |= sets.get(i);
            }
            return true;
        }
        int union(int m) {
            int u = 0;
            for (int i = 0; i < sets.size(); i++) if ((m >> i & 1) == 1) u |= sets.get(i);
            return u;
        }
        int apart(int what) {
            if (what < 0 || what > 1) return NONE;
            int best = 0;
            for (int m = 0; m < 1 << sets.size(); m++) if (areApart(m) && size(m) > size(best)) best = m;
            return what == 0 ? size(best) : best;
        }
        int exact(int what) {
            if (what < 0 || what > 1) return NONE;
            int all = union((1 << sets.size()) - 1), ways = 0, least = -2;
            for (int m = 0; m < 1 << sets.size(); m++) if (areApart(m) && union(m) == all) {
                ways++;
                if (least == -2) least = m;
            }
            return what == 0 ? ways : least;
        }
        int halves(int what) {
            if (what < 0 || what > 1) return NONE;
            int ways = 0, least = -2;
            for (int b = 0; b <= full(); b++) {
                boolean ok = true;
                for (int s : sets) if (size(s) >= 2 && ((s & b) == 0 || (s & b) == s)) ok = false;
                if (ok) { ways++; if (least == -2) least = b; }
            }
            return what == 0 ? ways : least;
        }

        /** The way to a kernel; each step is kind, sets that went, the set that came, how many there were then. */
        static final class Run {
            final List<int[]> steps = new ArrayList<>();
            final List<Integer> end;
            boolean lost = false;
            Run(List<Integer> from, int b) {
                end = new ArrayList<>(from);
                while (true) {
                    int outer = -1;
                    for (int i = 0; i < end.size() && outer < 0; i++)
                        for (int j = 0; j < end.size(); j++)
                            if (i != j && (end.get(i) | end.get(j)) == end.get(i)) outer = i;
                    if (outer >= 0) {
                        end.remove(outer);
                        steps.add(new int[] {0, 1 << outer, -2, end.size()});
                        continue;
                    }
                    int f = -1;
                    for (int m : allFlowers(end)) if (size(m) == b + 1) { f = m; break; }
                    if (f < 0) return;
                    int c = core(end, f);
                    if (c == 0) { lost = true; return; }
                    for (int i = 15; i >= 0; i--) if ((f >> i & 1) == 1) end.remove(i);
                    if (!end.contains(c)) end.add(c);
                    steps.add(new int[] {1, f, c, end.size()});
                }
            }
        }
        int kernel(int b, int what) {
            if (b < 1 || b > 5 || what < 0 || what > 4) return NONE;
            Run r = new Run(sets, b);
            int[] kinds = new int[2];
            for (int[] s : r.steps) kinds[s[0]]++;
            if (what == 1) return r.steps.size();
            if (what == 2 || what == 3) return kinds[what - 2];
            if (r.lost) return -2;
            int u = 0;
            for (int s : r.end) u |= s;
            return what == 0 ? r.end.size() : u;
        }
        int kernelSet(int b, int k) {
            if (b < 1 || b > 5 || k < 0) return NONE;
            Run r = new Run(sets, b);
            return r.lost ? -2 : k < r.end.size() ? r.end.get(k) : NONE;
        }
        int step(int b, int k, int what) {
            if (b < 1 || b > 5 || k < 0 || what < 0 || what > 3) return NONE;
            Run r = new Run(sets, b);
            return k < r.steps.size() ? r.steps.get(k)[what] : NONE;
        }
        int can(int b) {
            if (b < 0 || b > 10) return NONE;
            for (int m = 0; m <= full(); m++) if (size(m) <= b && hitsAll(m)) return 1;
            return 0;
        }

        int link(int b, int what) {
            if (!arePoints(b) || what < 0 || what > 1) return NONE;
            List<Integer> f = new ArrayList<>();
            for (int s : sets) if ((s & b) == b && s != b) f.add(s - b);
            return what == 0 ? f.size() : greatestSize(f);
        }
        int withSet(int s) {
            if (s == 0 || !arePoints(s)) return NONE;
            List<Integer> f = new ArrayList<>(sets);
            if (!f.contains(s)) f.add(s);
            return greatestSize(f);
        }
        int withoutSet(int i) {
            if (i < 0 || i >= sets.size()) return NONE;
            List<Integer> f = new ArrayList<>(sets);
            f.remove(i);
            return greatestSize(f);
        }
        int freeNext(int k) {
            if (k < 2 || k > 16) return NONE;
            if (flower(k) != -2) return -2;
            for (int s : bySize()) {
                if (sets.contains(s)) continue;
                boolean free = k > 2 || sets.isEmpty();
                for (int m : flowerMasks()) {
                    if (!free) break;
                    if (size(m) != k - 1) continue;
                    int c = core(sets, m);
                    boolean closes = true;
                    for (int i = 0; i < sets.size(); i++) if ((m >> i & 1) == 1 && (sets.get(i) & s) != c) closes = false;
                    if (closes) free = false;
                }
                if (free) return s;
            }
            return -2;
        }

        static String letters(int s) {
            StringBuilder r = new StringBuilder();
            for (int p = 0; p < 10; p++) if ((s >> p & 1) == 1) r.append((char) ('a' + p));
            return r.toString();
        }
        static int told(String t, int i) { return i < -1 ? NONE : i == -1 ? t.length() : i < t.length() ? t.charAt(i) : -2; }
        String spelled() {
            StringBuilder r = new StringBuilder("points " + n + ";");
            for (int s : sets) r.append("set ").append(letters(s)).append(";");
            return r.toString();
        }
        int spell(int i) { return told(spelled(), i); }
        String reported(int b) {
            Run r = new Run(sets, b);
            StringBuilder t = new StringBuilder();
            for (int[] s : r.steps) {
                t.append(s[0] == 0 ? "within" : "flower");
                for (int i = 0; i < 16; i++) if ((s[1] >> i & 1) == 1) t.append(" ").append(i);
                if (s[0] == 1) t.append(" core ").append(letters(s[2]));
                t.append(";");
            }
            return t.append(r.lost ? "lost;" : "left " + r.end.size() + ";").toString();
        }
        int report(int b, int i) { return b < 1 || b > 5 ? NONE : told(reported(b), i); }
        int count(int what) {
            if (what == 0) return n;
            if (what == 1) return sets.size();
            if (what == 2) return union((1 << sets.size()) - 1);
            if (what == 3) return acts.size();
            if (what == 4) return tape.length();
            if (what != 5 && what != 6) return NONE;
            if (sets.isEmpty()) return -2;
            int hi = 0, lo = 99;
            for (int s : sets) { hi = Math.max(hi, size(s)); lo = Math.min(lo, size(s)); }
            return what == 5 ? hi : lo;
        }
    }

    /** One object and its model, to which the same calls go. */
    static final class Pair {
        final PetalSets x = new PetalSets();
        final Model m = new Model();
        final Random rnd;
        final StringBuilder log = new StringBuilder();
        int left = 512;

        Pair(Random rnd) { this.rnd = rnd; }

        boolean due(String call, int got, int want) {
            asked++;
            left--;
            log.append(call).append(" -> ").append(want).append('\n');
            if (got == want) return true;
            wrong++;
            if (wrong <= 5) System.out.println("behind the calls\n" + log + call + " answered " + got + ", due is " + want);
            return false;
        }

        /** Feeds the text and takes what is too much back again. */
        boolean tell(String t) {
            boolean ok = true;
            byte[] all = new byte[(t.length() + 19) / 20 * 20];
            for (int i = 0; i < t.length(); i++) all[i] = (byte) t.charAt(i);
            for (int i = 0; i < all.length; i += 20) {
                int[] w = new int[5];
                for (int j = 0; j < 20; j++) w[j / 4] = w[j / 4] << 8 | all[i + j] & 255;
                ok &= due("feed " + i, x.feed(w[0], w[1], w[2], w[3], w[4]), m.feed(w));
            }
            int extra = all.length - t.length();
            ok &= due("back " + extra, x.back(extra), m.back(extra));
            return ok & due("text " + t.replace('\n', '/'), x.text(), m.text());
        }

        String someText() {
            int n = 1 + rnd.nextInt(10);
            int many = rnd.nextInt(4) == 0 ? 16 : rnd.nextInt(17);
            int style = rnd.nextInt(4);
            List<Integer> sets = new ArrayList<>();
            for (int t = 0; t < 200 && sets.size() < many; t++) {
                int s = rnd.nextInt(1 << n);
                if (style == 1) s &= rnd.nextInt(1 << n);
                if (style == 2) s = 1 << rnd.nextInt(n) | 1 << rnd.nextInt(n);
                if (style == 3) s = t < n ? 1 << t : 1 << rnd.nextInt(n) | 1 << rnd.nextInt(n) | (rnd.nextBoolean() ? 1 << rnd.nextInt(n) : 0);
                if (s != 0 && !sets.contains(s)) sets.add(s);
            }
            return textOf(n, sets);
        }

        /** The sets that there are, of as many points as they need or more. */
        String retold() {
            int least = 1;
            for (int s : m.sets) least = Math.max(least, 32 - Integer.numberOfLeadingZeros(s));
            return textOf(least + rnd.nextInt(11 - least), m.sets);
        }

        String textOf(int n, List<Integer> sets) {
            StringBuilder t = new StringBuilder(n == 6 && rnd.nextBoolean() ? "" : "points " + n + ";");
            for (int s : sets) {
                List<Character> letters = new ArrayList<>();
                for (char c : Model.letters(s).toCharArray()) letters.add(c);
                Collections.shuffle(letters, rnd);
                t.append("set ");
                for (char c : letters) t.append(c);
                t.append(';');
            }
            return t.toString();
        }

        /** A text with a few bytes put in, taken out or made another. */
        String spoiled(String t) {
            String bytes = "  \n;;09123pointsetabcjkz" + (char) 233 + (char) 0 + "A";
            StringBuilder r = new StringBuilder(t);
            for (int c = 1 + rnd.nextInt(3); c > 0; c--) {
                int at = rnd.nextInt(r.length() + 1);
                char b = bytes.charAt(rnd.nextInt(bytes.length()));
                int how = rnd.nextInt(4);
                if (how == 0 || at == r.length()) r.insert(at, b);
                else if (how == 1) r.deleteCharAt(at);
                else if (how == 2) r.setCharAt(at, b);
                else r.setLength(at);
            }
            return r.toString();
        }

        int point() { return rnd.nextInt(m.n + 2) - 1; }
        int points() {
            int r = rnd.nextInt(14);
            if (r == 0) return 0;
            if (r == 1) return 1 << m.n;
            if (r == 2) return -1 - rnd.nextInt(3);
            if (r <= 5 && m.sets.size() > 1) return m.sets.get(rnd.nextInt(m.sets.size())) & m.sets.get(rnd.nextInt(m.sets.size()));
            if (r == 6 && !m.sets.isEmpty()) return m.sets.get(rnd.nextInt(m.sets.size()));
            return r < 10 ? rnd.nextInt(1 << m.n) & rnd.nextInt(1 << m.n) : rnd.nextInt(1 << m.n);
        }
        int sets() {
            int r = rnd.nextInt(12);
            if (r == 0) return 1 << m.sets.size();
            if (r == 1) return -1 - rnd.nextInt(3);
            List<Integer> f = m.flowerMasks();
            if (r < 7 && !f.isEmpty()) return f.get(rnd.nextInt(f.size()));
            return rnd.nextInt(1 << m.sets.size());
        }
        int number() { return rnd.nextInt(m.sets.size() + 2) - 1; }
        int flowerSize() { return rnd.nextInt(3) == 0 ? rnd.nextInt(18) : 2 + rnd.nextInt(4); }
        int budget() { return rnd.nextInt(7); }
        int what(int most) { return rnd.nextInt(most + 3) - 1; }

        boolean someAct() {
            int a = point(), b = point(), i = number(), s = points(), k = flowerSize(), w = budget();
            boolean with = rnd.nextBoolean();
            switch (rnd.nextInt(16)) {
                case 0: case 1: case 2: return due("add " + s, x.add(s), m.add(s));
                case 3: return due("drop " + i, x.drop(i) ? 1 : 0, m.drop(i));
                case 4: return due("change " + i + " " + s, x.change(i, s), m.change(i, s));
                case 5: return due("swap " + a + " " + b, x.swap(a, b), m.swap(a, b));
                case 6: return due("without " + a, x.without(a), m.without(a));
                case 7: return due("only " + a + " " + with, x.only(a, with), m.only(a, with));
                case 8: return due("join " + a + " " + b, x.join(a, b), m.join(a, b));
                case 9: return due("turn", x.turn(), m.turn());
                case 10: return due("flip", x.flip(), m.flip());
                case 11: return due("reduce " + w, x.reduce(w), m.reduce(w));
                case 12: return due("thin " + k, x.thin(k), m.thin(k));
                default: return due("undo", x.undo(), m.undo());
            }
        }

        boolean someQuestion() {
            int a = point(), i = number(), p = points(), s = sets(), k = flowerSize(), b = budget();
            int c, d;
            switch (rnd.nextInt(41)) {
                case 0: c = what(3); return due("set " + i + " " + c, x.set(i, c), m.set(i, c));
                case 1: return due("degree " + a, x.degree(a), m.degree(a));
                case 2: return due("having " + p, x.having(p), m.having(p));
                case 3: return due("isFlower " + s, x.isFlower(s), m.isFlower(s));
                case 4: return due("core " + s, x.core(s), m.core(s));
                case 5: c = what(2); return due("greatest " + c, x.greatest(c), m.greatest(c));
                case 6: return due("flower " + k, x.flower(k), m.flower(k));
                case 7: return due("flowers " + k, x.flowers(k), m.flowers(k));
                case 8: c = what(1); return due("byCore " + p + " " + c, x.byCore(p, c), m.byCore(p, c));
                case 9: return due("cores " + k, x.cores(k), m.cores(k));
                case 10: return due("most " + k, x.most(k), m.most(k));
                case 11: return due("surplus " + k, x.surplus(k), m.surplus(k));
                case 12: return due("uneven " + s, x.uneven(s), m.uneven(s));
                case 13: c = rnd.nextInt(13) - 1; return due("pairs " + c, x.pairs(c), m.pairs(c));
                case 14: return due("parts", x.parts(), m.parts());
                case 15: return due("ranked " + a, x.ranked(a), m.ranked(a));
                case 16: c = rnd.nextInt(11); d = rnd.nextInt(11); return due("spread " + c + " " + d, x.spread(c, d), m.spread(c, d));
                case 17: return due("spreadest", x.spreadest(), m.spreadest());
                case 18: c = rnd.nextInt(12); d = rnd.nextInt(18); return due("bound " + c + " " + d, x.bound(c, d), m.bound(c, d));
                case 19: c = rnd.nextInt(13) - 1; return due("sized " + c, x.sized(c), m.sized(c));
                case 20: return due("hits " + p, x.hits(p), m.hits(p));
                case 21: return due("missed " + p, x.missed(p), m.missed(p));
                case 22: c = what(3); return due("hitter " + c, x.hitter(c), m.hitter(c));
                case 23: c = rnd.nextInt(20) - 2; return due("tight " + c, x.tight(c), m.tight(c));
                case 24: c = what(2); return due("greedy " + c, x.greedy(c), m.greedy(c));
                case 25: c = what(1); return due("apart " + c, x.apart(c), m.apart(c));
                case 26: c = what(1); return due("exact " + c, x.exact(c), m.exact(c));
                case 27: c = what(1); return due("halves " + c, x.halves(c), m.halves(c));
                case 28: c = what(4); return due("kernel " + b + " " + c, x.kernel(b, c), m.kernel(b, c));
                case 29: return due("kernelSet " + b + " " + i, x.kernelSet(b, i), m.kernelSet(b, i));
                case 30: case 31: c = what(3); return due("step " + b + " " + i + " " + c, x.step(b, i, c), m.step(b, i, c));
                case 32: c = rnd.nextInt(13) - 1; return due("can " + c, x.can(c), m.can(c));
                case 33: c = what(1); return due("link " + p + " " + c, x.link(p, c), m.link(p, c));
                case 34: return due("withSet " + p, x.withSet(p), m.withSet(p));
                case 35: return due("withoutSet " + i, x.withoutSet(i), m.withoutSet(i));
                case 36: return due("freeNext " + k, x.freeNext(k), m.freeNext(k));
                case 37: c = rnd.nextInt(m.spelled().length() + 4) - 2; return due("spell " + c, x.spell(c), m.spell(c));
                case 38: case 39:
                    c = rnd.nextInt((b < 1 || b > 5 ? 9 : m.reported(b).length()) + 4) - 2;
                    return due("report " + b + " " + c, x.report(b, c), m.report(b, c));
                default: c = what(6); return due("count " + c, x.count(c), m.count(c));
            }
        }

        boolean sameState() {
            boolean ok = due("spell -1", x.spell(-1), m.spell(-1));
            for (int i = 0; i < m.sets.size() && ok; i++) ok = due("set " + i + " 0", x.set(i, 0), m.set(i, 0));
            return ok && due("count 0", x.count(0), m.count(0)) && due("count 3", x.count(3), m.count(3));
        }
    }

    private static void mixedRun(long seed) {
        Pair p = new Pair(new Random(seed));
        while (p.left > 80) {
            int r = p.rnd.nextInt(60);
            boolean ok = true;
            if (r == 0) ok = p.tell(p.someText());
            else if (r == 1) ok = p.tell(p.spoiled(p.someText())) && p.sameState();
            else if (r < 20) ok = p.someAct() && p.due("count 1", p.x.count(1), p.m.count(1));
            else ok = p.someQuestion();
            if (!ok) return;
        }
        p.sameState();
    }

    private static void textRun(long seed) {
        Pair p = new Pair(new Random(seed));
        while (p.left > 60) {
            String t = p.someText();
            for (int c = p.rnd.nextInt(3); c > 0; c--) t = p.spoiled(t);
            if (t.length() > 400) t = t.substring(0, 400);
            if (!p.tell(t) || !p.sameState()) return;
        }
    }

    /** The same sets told again of other points: what was kept of them must not bring the points back. */
    private static void retoldRun(long seed) {
        Pair p = new Pair(new Random(seed));
        if (!p.tell(p.someText())) return;
        while (p.left > 100) {
            int b = 1 + p.rnd.nextInt(5);
            int how = p.rnd.nextInt(4);
            boolean ok = p.due("kernel " + b, p.x.kernel(b, 0), p.m.kernel(b, 0)) && p.tell(p.retold());
            if (ok && how == 0) ok = p.someQuestion();
            if (ok && how != 1) ok = p.due("reduce " + b, p.x.reduce(b), p.m.reduce(b));
            if (ok && how == 1) ok = p.someAct();
            if (!ok || !p.sameState()) return;
            if (p.m.sets.size() < 3) ok = p.tell(p.someText());
            if (!ok) return;
        }
    }

    /** Every byte of the texts and every step, on many families. */
    private static void readRun(long seed) {
        Pair p = new Pair(new Random(seed));
        if (!p.tell(p.someText())) return;
        String s = p.m.spelled();
        for (int i = -2; i < s.length() + 2; i++) if (!p.due("spell " + i, p.x.spell(i), p.m.spell(i))) return;
        for (int b = 1; b <= 5; b++) {
            String r = p.m.reported(b);
            for (int i = 0; i < r.length() + 1; i++) if (!p.due("report " + b + " " + i, p.x.report(b, i), Model.told(r, i))) return;
        }
    }

    /** Questions alone, on families that stay as great as they were told. */
    private static void wideRun(long seed) {
        Pair p = new Pair(new Random(seed));
        while (p.left > 120) {
            String t = p.someText();
            if (t.length() < 120) continue;
            if (!p.tell(t)) return;
            for (int i = 0; i < 80; i++) if (!p.someQuestion()) return;
            for (int k = 2; k <= 12; k++) if (!p.due("most " + k, p.x.most(k), p.m.most(k))) return;
        }
    }

    // ---- every family of up to three points

    private static final String[] BY_NOTHING = {"parts", "spreadest"};
    private static final String[] BY_NUMBER = {"degree", "greatest", "flower", "flowers", "cores", "most", "surplus", "pairs", "ranked", "sized",
        "hitter", "tight", "greedy", "apart", "exact", "halves", "can", "withoutSet", "freeNext", "spell", "count"};
    private static final String[] BY_POINTS = {"having", "hits", "missed", "withSet"};
    private static final String[] BY_SETS = {"isFlower", "core", "uneven"};
    private static final String[] BY_POINTS_AND_WHAT = {"byCore", "link"};
    private static final String[] BY_TWO_NUMBERS = {"set", "spread", "bound", "kernel", "kernelSet", "report"};
    private static final int[] OUTER_NUMBERS = {Integer.MIN_VALUE, Integer.MAX_VALUE};

    /** From -2 on to so many, and the outermost numbers. */
    private static int[] numbersTo(int most) {
        int[] all = new int[most + 5];
        for (int i = 0; i < most + 3; i++) all[i] = i - 2;
        System.arraycopy(OUTER_NUMBERS, 0, all, most + 3, 2);
        return all;
    }

    private static Object invoke(Object on, String name, Object... arguments) {
        Class<?>[] types = new Class<?>[arguments.length];
        for (int i = 0; i < types.length; i++) types[i] = arguments[i] instanceof Boolean ? boolean.class : int.class;
        try {
            return on.getClass().getDeclaredMethod(name, types).invoke(on, arguments);
        } catch (ReflectiveOperationException e) {
            throw new IllegalStateException(name, e);
        }
    }

    /** A family of which every call is tried; each object is used for as many calls as the document allows. */
    static final class Small {
        final int n;
        final List<Integer> sets;
        Pair pair;

        Small(int n, List<Integer> sets) {
            this.n = n;
            this.sets = sets;
            pair = fresh();
        }

        Pair fresh() {
            Pair p = new Pair(new Random(1));
            StringBuilder t = new StringBuilder("points " + n + ";");
            for (int s : sets) t.append("set ").append(Model.letters(s)).append(";");
            p.tell(t.toString());
            return p;
        }

        boolean ask(String name, Object... arguments) {
            if (pair.left < 1) pair = fresh();
            Object got = invoke(pair.x, name, arguments);
            int answer = got instanceof Boolean ? ((Boolean) got ? 1 : 0) : (Integer) got;
            return pair.due(name + java.util.Arrays.toString(arguments), answer, (Integer) invoke(pair.m, name, arguments));
        }

        /** The act, what there is behind it, and what there is when it is taken back. */
        void act(String name, Object... arguments) {
            if (pair.left < 60) pair = fresh();
            int acts = pair.m.acts.size();
            if (!ask(name, arguments) || !pair.sameState()) return;
            if (pair.m.acts.size() > acts) ask("undo");
            pair.sameState();
        }

        void everyQuestion() {
            int[] points = numbersTo((1 << n) + 1);
            for (String name : BY_NOTHING) ask(name);
            for (String name : BY_NUMBER) for (int i : numbersTo(18)) ask(name, i);
            for (String name : BY_POINTS) for (int b : points) ask(name, b);
            for (String name : BY_SETS) for (int m : numbersTo((1 << sets.size()) + 1)) ask(name, m);
            for (String name : BY_POINTS_AND_WHAT) for (int b : points) for (int w : numbersTo(2)) ask(name, b, w);
            for (String name : BY_TWO_NUMBERS) for (int i : numbersTo(11)) for (int j : numbersTo(17)) ask(name, i, j);
            for (int b : numbersTo(6)) for (int k : numbersTo(7)) for (int w : numbersTo(4)) ask("step", b, k, w);
        }

        void everyAct() {
            int[] points = numbersTo(n + 1);
            int[] bits = numbersTo((1 << n) + 1);
            int[] numbers = numbersTo(sets.size() + 1);
            for (String name : new String[] {"turn", "flip", "undo"}) act(name);
            for (int b : bits) act("add", b);
            for (int i : numbers) act("drop", i);
            for (int i : numbers) for (int b : bits) act("change", i, b);
            for (int a : points) for (int b : points) act("swap", a, b);
            for (int a : points) for (int b : points) act("join", a, b);
            for (int a : points) act("without", a);
            for (int a : points) act("only", a, true);
            for (int a : points) act("only", a, false);
            for (int b : numbersTo(6)) act("reduce", b);
            for (int k : numbersTo(17)) act("thin", k);
        }
    }

    private static void smallFamily(int n, List<Integer> sets) {
        Small family = new Small(n, sets);
        family.everyQuestion();
        family.everyAct();
    }

    /** All orders of all that can come behind the sets chosen so far. */
    private static void inEveryOrder(int n, List<Integer> chosen) {
        smallFamily(n, new ArrayList<>(chosen));
        for (int s = 1; s < 1 << n; s++) {
            if (chosen.contains(s)) continue;
            chosen.add(s);
            inEveryOrder(n, chosen);
            chosen.remove(chosen.size() - 1);
        }
    }

    private static void risingAndFalling(int n) {
        for (int m = 0; m < 1 << (1 << n) - 1; m++) {
            List<Integer> sets = new ArrayList<>();
            for (int s = 1; s < 1 << n; s++) if ((m >> s - 1 & 1) == 1) sets.add(s);
            smallFamily(n, sets);
            List<Integer> falling = new ArrayList<>(sets);
            Collections.reverse(falling);
            smallFamily(n, falling);
        }
    }

    private static void smallFamilies(boolean everyOrder) {
        inEveryOrder(1, new ArrayList<>());
        inEveryOrder(2, new ArrayList<>());
        if (everyOrder) inEveryOrder(3, new ArrayList<>());
        else risingAndFalling(3);
    }

    public static void main(String[] args) {
        if (args.length == 1 && args[0].equals("small")) {
            smallFamilies(true);
            end();
        }
        int runs = args.length > 0 ? Integer.parseInt(args[0]) : 150;
        long seed = args.length > 1 ? Long.parseLong(args[1]) : 1;
        for (int i = 0; i < runs; i++) {
            mixedRun(seed * 1000003 + i);
            textRun(seed * 2000003 + i);
            retoldRun(seed * 5000011 + i);
            readRun(seed * 3000017 + i);
            wideRun(seed * 4000037 + i);
        }
        smallFamilies(false);
        end();
    }

    private static void end() {
        System.out.println(asked + " answers, " + wrong + " of them not as due");
        System.exit(wrong == 0 ? 0 : 1);
    }
}
