import java.util.ArrayDeque;
import java.util.ArrayList;
import java.util.Arrays;
import java.util.Comparator;
import java.util.Deque;
import java.util.HashMap;
import java.util.List;
import java.util.Map;
import java.util.Random;
import java.util.TreeMap;
import java.util.TreeSet;

/** Random runs of calls, each answer against a slow model written from the document alone. */
public final class ModelTest {
    private static final int CANNOT = -1000000;
    /** An object is good for so many calls: no run asks for more of one. */
    private static final int MOST_CALLS = 512;
    /** More calls than one step of a run makes. */
    private static final int OF_A_STEP = 24;
    private static final int OF_ROUNDS = 40;

    /** A FLIGHT of the model; slot null: not planned, or cancelled. */
    private static final class F {
        int no, line, eta, time, weight, hold, circles;
        Integer slot;
        boolean cancelled;

        F copy() {
            F c = new F();
            c.no = no; c.line = line; c.eta = eta; c.time = time; c.weight = weight;
            c.hold = hold; c.circles = circles; c.slot = slot; c.cancelled = cancelled;
            return c;
        }
    }

    private static final class State {
        List<F> flights = new ArrayList<>();
        int[] rates = new int[12];
        int now;
        boolean planned;
        TreeMap<Integer, Integer> vacant = new TreeMap<>();
        TreeMap<Integer, int[]> offers = new TreeMap<>();
        List<int[]> links = new ArrayList<>();

        State() {
            Arrays.fill(rates, 12);
        }

        State copy() {
            State c = new State();
            for (F f : flights) c.flights.add(f.copy());
            c.rates = rates.clone();
            c.now = now;
            c.planned = planned;
            c.vacant = new TreeMap<>(vacant);
            c.offers = new TreeMap<>(offers);
            c.links = new ArrayList<>(links);
            return c;
        }

        TreeSet<Integer> slots() {
            TreeSet<Integer> all = new TreeSet<>();
            for (int h = 0; h < 12; h++)
                for (int i = 0; i < rates[h]; i++) all.add(60 * h + (int) Math.floor(60.0 * i / rates[h] + 1e-9));
            for (int m = 720; m <= 1195; m += 5) all.add(m);
            return all;
        }

        F get(int f) {
            return f >= 0 && f < flights.size() ? flights.get(f) : null;
        }

        int earliest(F f) {
            return Math.max(f.eta, now + f.time);
        }

        boolean air(F f) {
            return f.slot != null && f.eta - f.time + f.hold <= now;
        }

        boolean ground(F f) {
            return f.slot != null && !air(f);
        }

        int cost(F f) {
            return f.weight * (f.hold + 3 * f.circles);
        }

        int cost(int line) {
            return flights.stream().filter(f -> f.slot != null && f.line == line).mapToInt(this::cost).sum();
        }

        int allCost() {
            return flights.stream().filter(f -> f.slot != null).mapToInt(this::cost).sum();
        }

        int waits(int line) {
            return flights.stream().filter(f -> f.slot != null && f.line == line).mapToInt(f -> f.hold + f.circles).sum();
        }

        int many(int line) {
            return (int) flights.stream().filter(f -> f.slot != null && f.line == line).count();
        }

        int longest() {
            return flights.stream().filter(f -> f.slot != null).mapToInt(f -> f.hold + f.circles).max().orElse(0);
        }

        int hold() {
            return flights.stream().filter(f -> f.slot != null).mapToInt(f -> f.hold).sum();
        }

        int circles() {
            return flights.stream().filter(f -> f.slot != null).mapToInt(f -> f.circles).sum();
        }

        void put(F f, int minute) {
            f.slot = minute;
            f.hold = minute - f.eta;
            f.circles = 0;
        }

        void wipe() {
            vacant.clear();
            offers.clear();
        }

        void plan(int rule) {
            TreeSet<Integer> free = slots();
            wipe();
            List<F> off = new ArrayList<>(), others = new ArrayList<>();
            for (F f : flights) {
                f.cancelled = false;
                f.slot = null;
                (f.eta - f.time <= now ? off : others).add(f);
            }
            Comparator<F> byEta = Comparator.<F>comparingInt(f -> f.eta).thenComparingInt(f -> f.no);
            off.sort(byEta);
            for (F f : off) {
                f.slot = free.ceiling(f.eta);
                free.remove(f.slot);
                f.hold = 0;
                f.circles = f.slot - f.eta;
            }
            others.sort(byEta);
            if (rule == 1) others.sort(Comparator.<F>comparingInt(f -> -f.weight).thenComparing(byEta));
            if (rule == 2) {
                List<Deque<F>> rows = new ArrayList<>();
                for (int l = 0; l < 5; l++) rows.add(new ArrayDeque<>());
                for (F f : others) rows.get(f.line).add(f);
                int left = others.size();
                others = new ArrayList<>();
                for (int l = 0; others.size() < left; l = (l + 1) % 5)
                    if (!rows.get(l).isEmpty()) others.add(rows.get(l).poll());
            }
            for (F f : others) {
                int s = free.ceiling(earliest(f));
                free.remove(s);
                put(f, s);
            }
            planned = true;
        }

        int revise() {
            Map<Integer, Integer> ahead = new HashMap<>();
            for (F f : flights) ahead.put(f.no, f.slot);
            TreeSet<Integer> free = slots();
            List<F> up = new ArrayList<>(), down = new ArrayList<>();
            for (F f : flights) {
                if (f.cancelled) continue;
                if (air(f)) {
                    if (f.slot <= now) free.remove(f.slot); else up.add(f);
                } else {
                    down.add(f);
                }
            }
            up.sort(Comparator.<F>comparingInt(f -> f.eta + f.hold).thenComparingInt(f -> f.no));
            down.sort(Comparator.<F>comparingInt(f -> f.eta).thenComparingInt(f -> f.no));
            for (F f : up) {
                int s = free.ceiling(f.eta + f.hold);
                while (s <= now) s = free.higher(s);
                free.remove(s);
                f.slot = s;
                f.circles = s - f.eta - f.hold;
            }
            for (F f : down) {
                int s = free.ceiling(earliest(f));
                free.remove(s);
                put(f, s);
            }
            wipe();
            int changed = 0;
            for (F f : flights) if (f.slot != null && !f.slot.equals(ahead.get(f.no))) changed++;
            return changed;
        }

        int cancel(F f) {
            int minute = f.slot;
            vacant.put(minute, f.line);
            f.slot = null;
            f.hold = 0;
            f.circles = 0;
            f.cancelled = true;
            return minute;
        }

        int fill() {
            int many = 0;
            while (true) {
                boolean done = false;
                for (int v : new ArrayList<>(vacant.keySet())) {
                    int keeper = vacant.get(v);
                    F take = flights.stream().filter(f -> ground(f) && f.slot > v && earliest(f) <= v)
                        .min(Comparator.<F>comparingInt(f -> f.line == keeper ? 0 : 1).thenComparingInt(f -> f.slot)).orElse(null);
                    if (take != null) {
                        vacant.remove(v);
                        vacant.put(take.slot, keeper);
                        put(take, v);
                        done = true;
                        many++;
                        break;
                    }
                }
                if (!done) return many;
            }
        }

        int lack(int[] l) {
            F f = get(l[0]), g = get(l[1]);
            if (f.slot == null || g.slot == null) return -2;
            return Math.max(0, f.slot + l[2] - (g.eta - g.time + g.hold));
        }

        int broken() {
            return (int) links.stream().filter(l -> lack(l) != 0).count();
        }

        int unfair() {
            TreeSet<Integer> shares = new TreeSet<>();
            for (int l = 0; l < 5; l++) if (many(l) > 0) shares.add(100 * waits(l) / many(l));
            return shares.isEmpty() ? -2 : shares.last() - shares.first();
        }

        /** Deals offers in a ring: each one's rising flight with the next one's falling flight. */
        Integer ring(int... ring) {
            List<F> seen = new ArrayList<>();
            for (int i : ring) if (!offers.containsKey(i)) return null;
            TreeSet<Integer> lines = new TreeSet<>();
            for (int i : ring) lines.add(get(offers.get(i)[0]).line);
            if (lines.size() < ring.length) return null;
            int before = allCost();
            State then = copy();
            for (int k = 0; k < ring.length; k++) {
                int[] o = offers.get(ring[k]), p = offers.get(ring[(k + 1) % ring.length]);
                F b = get(o[2]), a = get(p[0]);
                if (!ground(a) || !ground(b)) return null;
                if (!(a.slot < b.slot) || a.slot > o[3] || a.slot < earliest(b)) return null;
                if (b.slot > p[1] || b.slot < earliest(a)) return null;
                then.put(then.get(b.no), a.slot);
                then.put(then.get(a.no), b.slot);
                seen.add(a);
                seen.add(b);
            }
            return before - then.allCost();
        }

        int doRing(int... ring) {
            Integer gain = ring(ring);
            if (gain == null) return CANNOT;
            for (int k = 0; k < ring.length; k++) {
                F b = get(offers.get(ring[k])[2]), a = get(offers.get(ring[(k + 1) % ring.length])[0]);
                int minute = a.slot;
                put(a, b.slot);
                put(b, minute);
            }
            for (int i : ring) offers.remove(i);
            return gain;
        }

        /** The slots of a line's first six, the best way: by number of flight. */
        TreeMap<Integer, Integer> best(int line) {
            List<F> six = new ArrayList<>();
            for (F f : flights) if (f.line == line && ground(f) && six.size() < 6) six.add(f);
            List<int[]> ways = new ArrayList<>();
            permute(six, new int[six.size()], 0, ways);
            int[] best = null;
            long least = Long.MAX_VALUE;
            for (int[] way : ways) {
                long cost = 0;
                for (int k = 0; k < way.length; k++) cost += six.get(k).weight * (way[k] - six.get(k).eta);
                if (cost < least || (cost == least && Arrays.compare(way, best) < 0)) {
                    least = cost;
                    best = way;
                }
            }
            TreeMap<Integer, Integer> row = new TreeMap<>();
            for (int k = 0; k < six.size(); k++) row.put(six.get(k).no, best[k]);
            return row;
        }

        private void permute(List<F> six, int[] way, int k, List<int[]> ways) {
            if (k == way.length) {
                ways.add(way.clone());
                return;
            }
            for (F g : six) {
                boolean used = false;
                for (int i = 0; i < k; i++) used |= way[i] == g.slot;
                if (used || g.slot < earliest(six.get(k))) continue;
                way[k] = g.slot;
                permute(six, way, k + 1, ways);
            }
        }

        int bits(int minute) {
            int bits = 0;
            for (F f : flights) if (f.slot != null && f.eta - f.time + f.hold <= minute && minute < f.slot) bits |= 1 << f.no;
            return bits;
        }
    }

    /** The model's answers. */
    private static final class Model {
        State s = new State();
        List<State> kept = new ArrayList<>();
        String tape = "";

        static boolean in(int v, int lo, int hi) {
            return v >= lo && v <= hi;
        }

        int feed(int... five) {
            if (tape.length() + 20 > 320) return -1;
            StringBuilder b = new StringBuilder(tape);
            for (int v : five) for (int k = 3; k >= 0; k--) b.append((char) (v >>> 8 * k & 255));
            tape = b.toString();
            return tape.length();
        }

        /** A machine of states: what may stand next, byte by byte. */
        int schedule(int n) {
            if (!in(n, 1, 160) || n > tape.length()) return -1;
            String text = tape.substring(0, n);
            tape = "";
            List<F> read = new ArrayList<>();
            F f = null;
            int at = 0, digits = 0, first = 0, value = 0;
            for (int p = 0; p <= n; p++) {
                int c = p < n ? text.charAt(p) : -1;
                boolean digit = c >= '0' && c <= '9';
                if ((at == 2 || at == 4) && digits > 0) {
                    if (digit) {
                        if (digits == 3) return -1000 - p;
                        digits++;
                        value = 10 * value + c - '0';
                        continue;
                    }
                    if (value > (at == 2 ? 719 : 300)) return -2000 - first;
                    if (at == 2) f.eta = value; else f.time = value;
                    at = at == 2 ? 3 : 5;
                    digits = 0;
                }
                if (c == ' ') continue;
                if (at == 0) {
                    if (c < 'a' || c > 'e') return -1000 - p;
                    if (read.size() == 20) return -3000 - p;
                    f = new F();
                    f.no = read.size();
                    f.line = c - 'a';
                    f.weight = 1;
                    read.add(f);
                    at = 2;
                } else if (at == 2 || at == 4) {
                    if (!digit) return -1000 - p;
                    digits = 1;
                    first = p;
                    value = c - '0';
                } else if (at == 3) {
                    if (c != '/') return -1000 - p;
                    at = 4;
                } else if (at == 5 && c == '*') {
                    at = 6;
                } else if (at == 6) {
                    if (!digit) return -1000 - p;
                    if (c == '0') return -2000 - p;
                    f.weight = c - '0';
                    at = 7;
                } else if (c == -1) {
                    break;
                } else {
                    if (c != ';') return -1000 - p;
                    at = 0;
                }
            }
            anew(read);
            return read.size();
        }

        void anew(List<F> flights) {
            s.flights = flights;
            s.planned = false;
            s.wipe();
            s.links.clear();
        }

        int flight(int line, int eta, int time, int weight) {
            if (!in(line, 0, 4) || !in(eta, 0, 719) || !in(time, 0, 300) || !in(weight, 1, 9)) return -1;
            if (s.flights.size() == 20) return -2;
            F f = new F();
            f.no = s.flights.size(); f.line = line; f.eta = eta; f.time = time; f.weight = weight;
            s.flights.add(f);
            return f.no;
        }

        long x;

        int draw(int m) {
            x = (25173L * x + 13849L) % 65536L;
            return (int) (x / 4 % m);
        }

        int draws(int seed, int n) {
            if (!in(n, 1, 20)) return -1;
            x = Math.floorMod((long) seed, 65536L);
            List<F> all = new ArrayList<>();
            for (int k = 0; k < n; k++) {
                F f = new F();
                f.no = k;
                f.line = draw(5);
                f.eta = draw(720);
                f.time = draw(301);
                f.weight = draw(9) + 1;
                all.add(f);
            }
            anew(all);
            return (int) x;
        }

        int letter(int k) {
            if (k < -1) return -1;
            List<String> parts = new ArrayList<>();
            for (F f : s.flights)
                parts.add("abcde".charAt(f.line) + "" + f.eta + "/" + f.time + (f.weight > 1 ? "*" + f.weight : ""));
            String text = String.join(";", parts);
            return k == -1 ? text.length() : k < text.length() ? text.charAt(k) : -2;
        }

        int rate(int h, int r) {
            if (!in(h, 0, 11) || !in(r, 0, 12)) return -1;
            int was = s.rates[h];
            s.rates[h] = r;
            return was;
        }

        int storm(int seed, int a, int b, int most) {
            if (!in(a, 0, 11) || !in(b, a, 11) || !in(most, 0, 12)) return -1;
            x = Math.floorMod((long) seed, 65536L);
            for (int h = a; h <= b; h++) s.rates[h] = draw(most + 1);
            return (int) x;
        }

        int now(int m) {
            if (!in(m, s.now, 719)) return 0;
            s.now = m;
            return 1;
        }

        int told(int no, int what) {
            F f = s.get(no);
            if (f == null || !in(what, 0, 10)) return -1;
            boolean has = f.slot != null;
            return new int[] {f.line, f.eta, f.time, f.weight, s.earliest(f), has ? f.slot : -2, has ? f.hold : -2,
                has ? f.circles : -2, s.air(f) ? 1 : 0, f.cancelled ? 1 : 0, has ? s.cost(f) : -2}[what];
        }

        int slot(int k) {
            if (k < 0) return -1;
            List<Integer> all = new ArrayList<>(s.slots());
            return k < all.size() ? all.get(k) : -2;
        }

        int at(int m) {
            if (!in(m, 0, 1199)) return -1;
            for (F f : s.flights) if (f.slot != null && f.slot == m) return f.no;
            return s.vacant.containsKey(m) ? -3 : s.slots().contains(m) ? -2 : -4;
        }

        int plan() {
            if (s.flights.isEmpty()) return -2;
            s.plan(0);
            return (int) s.flights.stream().filter(f -> f.hold > 0 || f.circles > 0).count();
        }

        int revise() {
            return s.planned ? s.revise() : -2;
        }

        int cancel(int no) {
            F f = s.get(no);
            return f == null ? -1 : f.slot == null ? -2 : s.air(f) ? -3 : s.cancel(f);
        }

        int exchange(int a, int b) {
            F f = s.get(a), g = s.get(b);
            if (f == null || g == null || f == g || f.line != g.line || !s.ground(f) || !s.ground(g)) return CANNOT;
            if (f.slot < s.earliest(g) || g.slot < s.earliest(f)) return CANNOT;
            int before = s.cost(f.line), m = f.slot;
            s.put(f, g.slot);
            s.put(g, m);
            return before - s.cost(f.line);
        }

        int move(int no, int m) {
            F f = s.get(no);
            if (f == null || !in(m, 0, 1199)) return -1;
            if (!s.ground(f) || !s.vacant.containsKey(m) || s.vacant.get(m) != f.line || s.earliest(f) > m) return -2;
            int was = f.slot;
            s.vacant.remove(m);
            s.vacant.put(was, f.line);
            s.put(f, m);
            return was;
        }

        int vacant(int k, int what) {
            if (k < 0 || !in(what, 0, 1)) return -1;
            List<Map.Entry<Integer, Integer>> all = new ArrayList<>(s.vacant.entrySet());
            return k >= all.size() ? -2 : what == 0 ? all.get(k).getKey() : all.get(k).getValue();
        }

        int offer(int a, int x, int b, int y) {
            F f = s.get(a), g = s.get(b);
            if (f == null || g == null || f == g || !in(x, 0, 1199) || !in(y, 0, 1199)) return -1;
            if (f.line != g.line || !s.ground(f) || !s.ground(g)) return -2;
            for (int i = 0; i < 8; i++)
                if (!s.offers.containsKey(i)) {
                    s.offers.put(i, new int[] {a, x, b, y});
                    return i;
                }
            return -3;
        }

        int withdraw(int i) {
            return s.offers.remove(i) != null ? 1 : 0;
        }

        int offered(int i, int what) {
            return s.offers.containsKey(i) && in(what, 0, 3) ? s.offers.get(i)[what] : -1;
        }

        int bestDeal(int what) {
            int[] best = null;
            for (int i = 0; i < 8; i++)
                for (int j = i + 1; j < 8; j++) {
                    Integer gain = s.ring(i, j);
                    if (gain != null && (best == null || gain > best[2])) best = new int[] {i, j, gain};
                }
            return best == null || !in(what, 0, 2) ? CANNOT : best[what];
        }

        int line(int l, int what) {
            if (!in(l, 0, 4) || !in(what, 0, 6)) return -1;
            int all = 0, gone = 0, air = 0, longest = 0, keeps = 0;
            for (F f : s.flights) {
                if (f.line != l) continue;
                all++;
                if (f.cancelled) gone++;
                if (s.air(f)) air++;
                if (f.slot != null) longest = Math.max(longest, f.slot - f.eta);
            }
            for (int k : s.vacant.values()) if (k == l) keeps++;
            return new int[] {all, gone, s.waits(l), s.cost(l), longest, keeps, air}[what];
        }

        int bestOrder(int l, int no) {
            F f = s.get(no);
            if (!in(l, 0, 4) || (no != -1 && f == null)) return -1;
            if (f != null && (f.line != l || f.slot == null)) return -2;
            TreeMap<Integer, Integer> best = s.best(l);
            if (f != null) return best.getOrDefault(no, f.slot);
            State t = s.copy();
            best.forEach((k, m) -> t.put(t.get(k), m));
            return t.cost(l);
        }

        int order(int l) {
            if (!in(l, 0, 4)) return -1;
            int before = s.cost(l);
            s.best(l).forEach((k, m) -> s.put(s.get(k), m));
            return before - s.cost(l);
        }

        State without(int f) {
            State t = s.copy();
            t.cancel(t.get(f));
            t.fill();
            return t;
        }

        int bestCancel(int l, int what) {
            if (!in(l, 0, 4) || !in(what, 0, 1)) return -1;
            int[] best = null;
            for (F f : s.flights) {
                if (f.line != l || !s.ground(f)) continue;
                int cost = without(f.no).cost(l);
                if (best == null || cost < best[1]) best = new int[] {f.no, cost};
            }
            return best == null ? -2 : best[what];
        }

        int helps(int no, int m) {
            F f = s.get(no);
            if (f == null || !in(m, 0, 4) || !s.ground(f)) return CANNOT;
            int now = 0;
            for (F g : s.flights) if (g != f && g.line == m && g.slot != null) now += g.hold + g.circles;
            return now - without(no).waits(m);
        }

        int rank(int k) {
            if (k < 0) return -1;
            List<Integer> lines = new ArrayList<>();
            for (int l = 0; l < 5; l++) if (s.many(l) > 0) lines.add(l);
            // 232792560 is a multiple of 1 to 20, so the shares compare without a rest
            lines.sort(Comparator.<Integer>comparingLong(l -> -232792560L / s.many(l) * s.waits(l)).thenComparingInt(l -> l));
            return k < lines.size() ? lines.get(k) : -2;
        }

        int link(int f, int g, int gap) {
            if (s.get(f) == null || s.get(g) == null || f == g || !in(gap, 0, 300)) return -1;
            if (s.links.size() == 12) return -2;
            s.links.add(new int[] {f, g, gap});
            return s.links.size() - 1;
        }

        int linked(int i, int what) {
            if (!in(i, 0, s.links.size() - 1) || !in(what, 0, 4)) return -1;
            int[] l = s.links.get(i);
            return what < 3 ? l[what] : what == 3 ? (s.lack(l) != 0 ? 1 : 0) : s.lack(l);
        }

        int breaks(int no, int m) {
            F f = s.get(no);
            if (f == null || !in(m, 0, 1199) || !s.ground(f) || m < s.earliest(f)) return CANNOT;
            State t = s.copy();
            t.put(t.get(no), m);
            return t.broken() - s.broken();
        }

        int cancelAll(int l) {
            if (!in(l, 0, 4)) return -1;
            int bits = 0;
            for (F f : s.flights)
                if (f.line == l && s.ground(f)) {
                    s.cancel(f);
                    bits |= 1 << f.no;
                }
            return bits;
        }

        int byRule(int rule, int what) {
            if (!in(rule, 0, 2) || !in(what, 0, 3)) return -1;
            if (s.flights.isEmpty()) return -2;
            State t = s.copy();
            t.plan(rule);
            return new int[] {t.allCost(), t.hold(), t.longest(), t.unfair()}[what];
        }

        int demand(int h, int what) {
            if (!in(h, 0, 11) || !in(what, 0, 2)) return -1;
            if (what == 1) return s.rates[h];
            int many = 0;
            for (F f : s.flights)
                if (what == 0 ? in(f.eta, 60 * h, 60 * h + 59) : f.slot != null && in(f.slot, 60 * h, 60 * h + 59)) many++;
            return many;
        }

        int crowded(int what) {
            if (!in(what, 0, 1)) return -1;
            int most = 0, first = 0;
            for (int m = 0; m < 1200; m++) {
                int many = Integer.bitCount(s.bits(m));
                if (many > most) {
                    most = many;
                    first = m;
                }
            }
            return what == 0 ? most : first;
        }

        State with(int r, int x, int y) {
            State t = s.copy();
            for (int h = x; h <= y; h++) t.rates[h] = r;
            t.plan(0);
            return t;
        }

        int would(int r, int x, int y, int what) {
            if (!in(r, 0, 12) || !in(x, 0, 11) || !in(y, x, 11) || !in(what, 0, 2)) return -1;
            if (s.flights.isEmpty()) return -2;
            State t = with(r, x, y);
            return what == 0 ? t.hold() : what == 1 ? t.circles() : t.flights.stream().mapToInt(f -> f.slot).max().getAsInt();
        }

        int rateFor(int x, int y, int minutes) {
            if (!in(x, 0, 11) || !in(y, x, 11) || !in(minutes, 0, 1200)) return -1;
            if (s.flights.isEmpty()) return -2;
            for (int r = 0; r <= 12; r++) if (with(r, x, y).longest() <= minutes) return r;
            return -2;
        }

        int ifCut(int m, int r) {
            if (!in(m, s.now, 719) || !in(r, 0, 12)) return -1;
            if (!s.planned) return -2;
            State t = s.copy();
            t.now = m;
            for (int h = 0; h < 12; h++) if (60 * h + 59 >= m) t.rates[h] = r;
            t.revise();
            return t.circles();
        }

        int next(int m) {
            if (!in(m, 0, 1199)) return -1;
            return s.flights.stream().filter(f -> f.slot != null && f.slot >= m)
                .min(Comparator.comparingInt(f -> f.slot)).map(f -> f.no).orElse(-2);
        }

        int count(int what) {
            if (in(what, 20, 31)) return s.rates[what - 20];
            if (!in(what, 0, 12)) return -1;
            return new int[] {s.flights.size(), s.now, s.planned ? 1 : 0, s.hold(), s.circles(),
                (int) s.flights.stream().filter(f -> f.cancelled).count(), s.vacant.size(), s.offers.size(), tape.length(),
                kept.size(), s.slots().size(), s.links.size(), s.broken()}[what];
        }

        int keep() {
            if (kept.size() == 8) return -1;
            kept.add(s.copy());
            return kept.size();
        }

        int undo() {
            if (kept.isEmpty()) return -1;
            s = kept.remove(kept.size() - 1);
            return kept.size();
        }
    }

    private final Random random;
    private final StormSlots real = new StormSlots();
    private final Model model = new Model();
    private final StringBuilder log = new StringBuilder();
    private int asked;
    /** How often each promise had an answer that is not a refusal. */
    private static final int[] REACHED = new int[48];
    /** Promises that refuse by CANNOT: their other answers may be below 0. */
    private static final List<Integer> MAY_BE_BELOW = List.of(16, 23, 24, 29, 34, 35);

    private ModelTest(long seed) {
        random = new Random(seed);
    }

    private int any(int lo, int hi) {
        return lo + random.nextInt(hi - lo + 1);
    }

    /** Mostly one that there is, at times one a little or far outside. */
    private int around(int lo, int hi) {
        int dice = random.nextInt(40);
        if (dice == 0) return lo - 1;
        if (dice == 1) return hi + 1;
        if (dice == 2) return random.nextBoolean() ? Integer.MAX_VALUE : Integer.MIN_VALUE;
        if (dice == 3) return lo;
        if (dice == 4) return hi;
        return hi < lo ? lo : any(lo, hi);
    }

    private int flightNo() {
        return around(0, model.s.flights.size() - 1);
    }

    /** A minute that means something: a slot in use, a vacant one, or any. */
    private int minute() {
        int dice = random.nextInt(4);
        if (dice == 0 && !model.s.vacant.isEmpty()) {
            List<Integer> all = new ArrayList<>(model.s.vacant.keySet());
            return all.get(random.nextInt(all.size()));
        }
        if (dice <= 1 && !model.s.flights.isEmpty()) {
            F f = model.s.flights.get(random.nextInt(model.s.flights.size()));
            if (f.slot != null) return f.slot + any(-1, 1);
            return Math.min(719, f.eta + any(0, 30));
        }
        return around(0, 1199);
    }

    private int fellow(int no) {
        F f = model.s.get(no);
        if (f == null) return flightNo();
        List<Integer> all = new ArrayList<>();
        for (F g : model.s.flights) if (g.line == f.line && g != f) all.add(g.no);
        return all.isEmpty() || random.nextInt(12) == 0 ? flightNo() : all.get(random.nextInt(all.size()));
    }

    private String scheduleText() {
        StringBuilder b = new StringBuilder();
        int many = random.nextInt(5) == 0 ? any(18, 22) : any(1, 8);
        boolean small = many > 8;
        for (int k = 0; k < many; k++) {
            if (k > 0) b.append(';');
            blanks(b, small);
            b.append((char) ('a' + random.nextInt(5)));
            blanks(b, small);
            b.append(small ? random.nextInt(10) : random.nextInt(10) == 0 ? any(715, 723) : random.nextInt(720));
            blanks(b, small);
            b.append('/');
            blanks(b, small);
            b.append(small ? random.nextInt(10) : random.nextInt(10) == 0 ? any(297, 303) : random.nextInt(301));
            blanks(b, small);
            if (!small && random.nextBoolean()) {
                b.append('*');
                blanks(b, false);
                b.append(random.nextInt(10) == 0 ? 0 : any(1, 9));
            }
            blanks(b, small);
        }
        for (int k = random.nextInt(3) == 0 ? any(1, 2) : 0; k > 0; k--) {
            String signs = "abcdef0123456789/*; x" + (char) 0 + (char) 200;
            int where = random.nextInt(b.length());
            char c = signs.charAt(random.nextInt(signs.length()));
            if (random.nextBoolean()) b.setCharAt(where, c); else b.insert(where, c);
        }
        return b.toString();
    }

    private void blanks(StringBuilder b, boolean never) {
        while (!never && random.nextInt(12) == 0) b.append(' ');
    }

    private void readSchedule() {
        String text = scheduleText();
        if (text.length() > 170) text = text.substring(0, 170);
        int n = text.length();
        StringBuilder b = new StringBuilder(text);
        while (b.length() % 20 != 0) b.append((char) any(32, 126));
        for (int k = 0; k < b.length(); k += 20) {
            int[] v = new int[5];
            for (int i = 0; i < 20; i++) v[i / 4] = v[i / 4] << 8 | b.charAt(k + i) & 255;
            feed(v[0], v[1], v[2], v[3], v[4]);
        }
        schedule(random.nextInt(30) == 0 ? around(1, 160) : n);
    }

    private void feed(int a, int b, int c, int d, int e) {
        same(2, "feed(" + a + "," + b + "," + c + "," + d + "," + e + ")", real.feed(a, b, c, d, e), model.feed(a, b, c, d, e));
    }

    private void schedule(int n) {
        same(3, "schedule(" + n + ")", real.schedule(n), model.schedule(n));
    }

    private static final class Unlike extends RuntimeException {
        private static final long serialVersionUID = 1;

        Unlike(String why) {
            super(why);
        }
    }

    private void same(int promise, String call, int got, int want) {
        asked++;
        log.append(call).append(" -> ").append(want).append('\n');
        if (want >= 0 || (want != CANNOT && MAY_BE_BELOW.contains(promise))) REACHED[promise]++;
        if (got != want) throw new Unlike(log + call + " answered " + got + ", the model says " + want);
    }

    /** How many calls compareAll() makes. */
    private int ofComparing() {
        return 35 + 11 * model.s.flights.size() + 8 * 4 + 5 * model.s.links.size() + 2 * (model.s.vacant.size() + 1);
    }

    private void compareAll() {
        for (int w = -1; w < 34; w++) same(45, "count(" + w + ")", real.count(w), model.count(w));
        for (int f = 0; f < model.s.flights.size(); f++)
            for (int w = 0; w < 11; w++) same(10, "told(" + f + "," + w + ")", real.told(f, w), model.told(f, w));
        for (int i = 0; i < 8; i++)
            for (int w = 0; w < 4; w++) same(22, "offered(" + i + "," + w + ")", real.offered(i, w), model.offered(i, w));
        for (int i = 0; i < model.s.links.size(); i++)
            for (int w = 0; w < 5; w++) same(33, "linked(" + i + "," + w + ")", real.linked(i, w), model.linked(i, w));
        for (int k = 0; k <= model.s.vacant.size(); k++)
            for (int w = 0; w < 2; w++) same(19, "vacant(" + k + "," + w + ")", real.vacant(k, w), model.vacant(k, w));
    }

    private void offerSomething() {
        int a = flightNo(), b = fellow(a);
        F f = model.s.get(a), g = model.s.get(b);
        // who goes up has the later slot in most offers, else few deals could be
        if (f != null && g != null && f.slot != null && g.slot != null && f.slot > g.slot && random.nextInt(5) > 0) {
            int t = a;
            a = b;
            b = t;
        }
        int x = random.nextInt(3) == 0 ? minute() : 1199, y = random.nextInt(3) == 0 ? minute() : 1199;
        same(20, "offer(" + a + "," + x + "," + b + "," + y + ")", real.offer(a, x, b, y), model.offer(a, x, b, y));
    }

    /** A flight into a vacant slot of its own line, if there is one. */
    private void moveSomething() {
        for (Map.Entry<Integer, Integer> v : new ArrayList<>(model.s.vacant.entrySet())) {
            int m = v.getKey(), f = flightNo();
            for (F g : model.s.flights) if (g.line == v.getValue() && random.nextBoolean()) f = g.no;
            same(17, "move(" + f + "," + m + ")", real.move(f, m), model.move(f, m));
        }
    }

    private void step(boolean tight) {
        int f = flightNo(), g = fellow(f), m = minute(), l = around(0, 4), h = around(0, 11), r = around(0, tight ? 4 : 12);
        int i = around(0, 7), j = around(0, 7), k = around(0, 7), y = around(Math.max(0, Math.min(11, h)), 11);
        int w = around(0, 6), seed = random.nextInt(), t = around(0, 300);
        switch (random.nextInt(62)) {
            case 0 -> { if (random.nextInt(4) == 0) readSchedule(); }
            case 1 -> { if (random.nextInt(6) == 0) same(5, "draws(" + seed + "," + t % 25 + ")", real.draws(seed, t % 25), model.draws(seed, t % 25)); }
            case 2, 3 -> {
                int eta = tight ? around(0, 240) : around(0, 719), weight = around(1, 9);
                same(4, "flight(" + l + "," + eta + "," + t + "," + weight + ")", real.flight(l, eta, t, weight), model.flight(l, eta, t, weight));
            }
            case 4 -> { int q = around(-1, 230); same(6, "letter(" + q + ")", real.letter(q), model.letter(q)); }
            case 5, 6 -> same(7, "rate(" + h + "," + r + ")", real.rate(h, r), model.rate(h, r));
            case 7 -> same(8, "storm(" + seed + "," + h + "," + y + "," + r + ")", real.storm(seed, h, y, r), model.storm(seed, h, y, r));
            case 8 -> { int q = random.nextInt(30) == 0 ? around(0, 719) : model.s.now + any(-1, 8); same(9, "now(" + q + ")", real.now(q) ? 1 : 0, model.now(q)); }
            case 9 -> { int q = around(0, 10); same(10, "told(" + f + "," + q + ")", real.told(f, q), model.told(f, q)); }
            case 10 -> { int q = around(0, 240); same(11, "slot(" + q + ")", real.slot(q), model.slot(q)); }
            case 11, 12 -> same(12, "at(" + m + ")", real.at(m), model.at(m));
            case 13 -> { if (random.nextInt(3) == 0) same(13, "plan()", real.plan(), model.plan()); }
            case 14 -> { if (random.nextInt(2) == 0) same(14, "revise()", real.revise(), model.revise()); }
            case 15, 16 -> same(15, "cancel(" + f + ")", real.cancel(f), model.cancel(f));
            case 17, 18, 19 -> same(16, "exchange(" + f + "," + g + ")", real.exchange(f, g), model.exchange(f, g));
            case 20, 21 -> moveSomething();
            case 22 -> same(17, "move(" + f + "," + m + ")", real.move(f, m), model.move(f, m));
            case 23, 24 -> same(18, "fill()", real.fill(), model.s.fill());
            case 25 -> { int q = around(0, 5), v = around(0, 1); same(19, "vacant(" + q + "," + v + ")", real.vacant(q, v), model.vacant(q, v)); }
            case 26, 27, 28, 29, 30, 31, 32 -> offerSomething();
            case 33 -> same(21, "withdraw(" + i + ")", real.withdraw(i) ? 1 : 0, model.withdraw(i));
            case 34 -> { int q = around(0, 3); same(22, "offered(" + i + "," + q + ")", real.offered(i, q), model.offered(i, q)); }
            case 35 -> {
                // the best deal, else few would come about
                int a = model.bestDeal(0), b = model.bestDeal(1);
                if (a != CANNOT && random.nextInt(3) == 0) same(23, "deal(" + b + "," + a + ")", real.deal(b, a), model.s.doRing(b, a));
            }
            case 36 -> same(23, "deal(" + i + "," + j + ")", real.deal(i, j), model.s.doRing(i, j));
            case 37, 38 -> { int q = around(0, 2); same(24, "bestDeal(" + q + ")", real.bestDeal(q), model.bestDeal(q)); }
            case 39 -> same(25, "line(" + l + "," + w + ")", real.line(l, w), model.line(l, w));
            case 40, 41 -> { int q = random.nextInt(3) == 0 ? -1 : f; same(26, "bestOrder(" + l + "," + q + ")", real.bestOrder(l, q), model.bestOrder(l, q)); }
            case 42 -> same(27, "order(" + l + ")", real.order(l), model.order(l));
            case 43, 44 -> { int q = around(0, 1); same(28, "bestCancel(" + l + "," + q + ")", real.bestCancel(l, q), model.bestCancel(l, q)); }
            case 45, 46 -> same(29, "helps(" + f + "," + l + ")", real.helps(f, l), model.helps(f, l));
            case 47 -> same(30, "rank(" + l + ")", real.rank(l), model.rank(l));
            case 48 -> same(31, "unfair()", real.unfair(), model.s.unfair());
            case 49 -> { int q = flightNo(); same(32, "link(" + f + "," + q + "," + t + ")", real.link(f, q, t), model.link(f, q, t)); }
            case 50 -> { int q = around(0, 11), v = around(0, 4); same(33, "linked(" + q + "," + v + ")", real.linked(q, v), model.linked(q, v)); }
            case 51, 52 -> same(34, "breaks(" + f + "," + m + ")", real.breaks(f, m), model.breaks(f, m));
            case 53 -> same(35, "round(" + i + "," + j + "," + k + ")", real.round(i, j, k), model.s.doRing(i, j, k));
            case 54 -> { if (random.nextInt(4) == 0) same(36, "cancelAll(" + l + ")", real.cancelAll(l), model.cancelAll(l)); }
            case 55 -> { int q = around(0, 2), v = around(0, 3); same(37, "byRule(" + q + "," + v + ")", real.byRule(q, v), model.byRule(q, v)); }
            case 56 -> { int q = around(0, 2); same(38, "demand(" + h + "," + q + ")", real.demand(h, q), model.demand(h, q)); }
            case 57 -> { int q = around(0, 1); same(39, "crowded(" + q + ")", real.crowded(q), model.crowded(q)); }
            case 58 -> {
                int q = around(0, 2), v = around(0, 1200);
                same(40, "would(" + r + "," + h + "," + y + "," + q + ")", real.would(r, h, y, q), model.would(r, h, y, q));
                same(41, "rateFor(" + h + "," + y + "," + v + ")", real.rateFor(h, y, v), model.rateFor(h, y, v));
                v %= 100;
                same(41, "rateFor(" + h + "," + y + "," + v + ")", real.rateFor(h, y, v), model.rateFor(h, y, v));
            }
            case 59 -> { int q = random.nextBoolean() ? model.s.now + any(-1, 60) : around(0, 719); same(42, "ifCut(" + q + "," + r + ")", real.ifCut(q, r), model.ifCut(q, r)); }
            case 60 -> {
                same(43, "airborne(" + m + ")", real.airborne(m), model.s.bits(m) | (m < 0 || m > 1199 ? -1 : 0));
                same(44, "next(" + m + ")", real.next(m), model.next(m));
            }
            default -> {
                if (random.nextInt(3) == 0) same(47, "undo()", real.undo(), model.undo());
                else same(46, "keep()", real.keep(), model.keep());
            }
        }
    }

    /** A ring of three offers is rare by chance: here every one that can be is dealt, and some that can't be are tried. */
    private void tryRounds() {
        for (int i = 0; i < 8; i++)
            for (int j = 0; j < 8; j++)
                for (int k = 0; k < 8; k++)
                    if (model.s.ring(i, j, k) != null || random.nextInt(40) == 0) tryRound(i, j, k);
    }

    private void tryRound(int i, int j, int k) {
        if (asked < MOST_CALLS) same(35, "round(" + i + "," + j + "," + k + ")", real.round(i, j, k), model.s.doRing(i, j, k));
    }

    private void begin(boolean tight, boolean alike) {
        int many = any(alike ? 8 : 0, 20), lines = random.nextBoolean() ? 5 : 3;
        for (int k = 0; k < many; k++) {
            int line = random.nextInt(lines), eta = alike ? any(90, 130) : tight ? any(0, 240) : any(0, 719);
            int time = alike ? any(0, 40) : any(0, 300), weight = any(1, 9);
            if (tight && random.nextBoolean()) time = Math.min(time, Math.max(0, eta - any(0, 60)));
            same(4, "flight(" + line + "," + eta + "," + time + "," + weight + ")", real.flight(line, eta, time, weight), model.flight(line, eta, time, weight));
        }
        if (tight) same(8, "storm(7,0,11,5)", real.storm(7, 0, 11, 5), model.storm(7, 0, 11, 5));
        same(13, "plan()", real.plan(), model.plan());
    }

    /** Two runs of three are shorter, so that calls are left to look at all of the state. */
    private void run() {
        boolean tight = random.nextInt(4) > 0, looks = random.nextInt(3) > 0;
        begin(tight, tight && random.nextBoolean());
        while (asked + OF_A_STEP + OF_ROUNDS + (looks ? ofComparing() : 0) < MOST_CALLS) step(tight);
        for (int c = 0; c < 6; c++) offerSomething();
        tryRounds();
        if (looks && asked + ofComparing() <= MOST_CALLS) compareAll();
        if (asked > MOST_CALLS) throw new Unlike("more than " + MOST_CALLS + " calls");
    }

    public static void main(String[] args) {
        int runs = args.length > 0 ? Integer.parseInt(args[0]) : 6000;
        for (int seed = 0; seed < runs; seed++) {
            try {
                new ModelTest(seed).run();
            } catch (Unlike e) {
                System.out.println("run " + seed + ":\n" + e.getMessage());
                System.exit(1);
            }
        }
        if (args.length > 0) System.out.println(Arrays.toString(REACHED));
        for (int p = 2; p < 48; p++) {
            if (REACHED[p] == 0) {
                System.out.println("no run got an answer of promise " + p + " that is not a refusal");
                System.exit(1);
            }
        }
        System.out.println(runs + " runs are as the model's");
    }
}
