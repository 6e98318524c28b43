import java.math.BigInteger;
import java.util.ArrayList;
import java.util.Comparator;
import java.util.List;
import java.util.regex.Matcher;
import java.util.regex.Pattern;

/**
 * The document told once more, as plainly and as slowly as can be: everything is tried out, nothing is
 * kept. It shares no code and no way of reckoning with the class that it is held against.
 */
final class Model {
    /** The kinds, each under the one that the document tells. */
    private static class Plain {
        int by, of, thing, worth, till, made;
        int kindNumber() { return 0; }
        int on(int day) { return day > till ? 0 : worth; }
        final int valueOn(int day) { return of == -1 ? 0 : Math.max(0, on(day)); }
        final Plain copy() {
            Plain p = kind(kindNumber());
            p.by = by; p.of = of; p.thing = thing; p.worth = worth; p.till = till; p.made = made;
            return p;
        }
        static Plain kind(int number) {
            switch (number) {
                case 1: return new Fading();
                case 2: return new Holy();
                case 3: return new Unborn();
                case 4: return new Keen();
                default: return new Plain();
            }
        }
    }
    private static class Fading extends Plain {
        @Override int kindNumber() { return 1; }
        final int daysBehind(int day) { return day > made ? day - made : 0; }
        @Override int on(int day) { return Math.max(0, super.on(day) - daysBehind(day)); }
    }
    private static final class Holy extends Plain {
        @Override int kindNumber() { return 2; }
        @Override int on(int day) {
            int v = worth;
            for (int d = till + 10; d <= day; d += 10) v++;
            return v;
        }
    }
    private static final class Unborn extends Plain {
        @Override int kindNumber() { return 3; }
        @Override int on(int day) { return day < till ? 0 : worth; }
    }
    private static final class Keen extends Fading {
        @Override int kindNumber() { return 4; }
        @Override int on(int day) { return Math.max(0, super.on(day) - daysBehind(day)); }
    }

    private record Need(int person, int thing, int size, int day) { }
    private record Told(int favour, int from, int to) { }
    private record Choice(int met, int spent, List<Integer> favours) { }

    private static final class State {
        int day;
        List<int[]> people = new ArrayList<>();
        List<Plain> favours = new ArrayList<>();
        List<Need> needs = new ArrayList<>();
        List<Told> passes = new ArrayList<>();
        int[] rates = {10, 10, 10, 10};

        State copy() {
            State s = new State();
            s.day = day;
            for (int[] p : people) s.people.add(p.clone());
            for (Plain f : favours) s.favours.add(f.copy());
            s.needs.addAll(needs);
            s.passes.addAll(passes);
            s.rates = rates.clone();
            return s;
        }
    }

    private record Kept(State state, List<State> nights) { }

    private State s = new State();
    private List<State> nights = new ArrayList<>();
    private final Kept[] images = new Kept[2];
    private final List<Integer> text = new ArrayList<>();
    private long above = 0, below = 1;
    private final int[] status = new int[3];

    Model() { s.people = strangers(4); }

    private static List<int[]> strangers(int n) {
        List<int[]> all = new ArrayList<>();
        for (int i = 0; i < n; i++) all.add(new int[] {20, 0});
        return all;
    }

    private int bad(int answer) { status[0]++; return answer; }
    private int no(int answer) { status[1]++; return answer; }
    private int full() { status[2]++; return -4; }
    private boolean person(int p) { return p >= 0 && p < s.people.size(); }
    private boolean favour(int f) { return f >= 0 && f < s.favours.size(); }
    private static boolean in(int v, int lo, int hi) { return lo <= v && v <= hi; }
    private int now(int f) { return s.favours.get(f).valueOn(s.day); }

    int people(int n) {
        if (!in(n, 2, 6)) return bad(-2);
        int was = s.people.size();
        State fresh = new State();
        fresh.people = strangers(n);
        fresh.rates = s.rates;
        s = fresh;
        nights.clear();
        return was;
    }

    int strong(int p, int v) {
        if (!person(p) || !in(v, 0, 99)) return bad(-2);
        int was = s.people.get(p)[0];
        s.people.get(p)[0] = v;
        return was;
    }

    int favour(int kind, int by, int of, int thing, int worth, int till) {
        if (!in(kind, 0, 4) || !person(by) || !person(of) || by == of) return bad(-2);
        if (!in(thing, 0, 3) || !in(worth, 1, 40) || !in(till, 0, 99)) return bad(-2);
        if (s.favours.size() == 12) return full();
        s.favours.add(made(s, kind, by, of, thing, worth, till));
        return s.favours.size() - 1;
    }

    private static Plain made(State s, int kind, int by, int of, int thing, int worth, int till) {
        Plain f = Plain.kind(kind);
        f.by = by; f.of = of; f.thing = thing; f.worth = worth; f.till = till; f.made = s.day;
        return f;
    }

    int need(int p, int thing, int size, int day) {
        if (!person(p) || !in(thing, 0, 3) || !in(size, 1, 40) || !in(day, s.day, 99)) return bad(-2);
        if (s.needs.size() == 5) return full();
        s.needs.add(new Need(p, thing, size, day));
        return s.needs.size() - 1;
    }

    int contented() { int n = s.needs.size(); s.needs.clear(); return n; }

    int type(long v, int n) {
        if (!in(n, 1, 8)) return bad(-2);
        if (text.size() + n > 250) return full();
        byte[] all = new byte[8];
        for (int i = 0; i < 8; i++) all[i] = (byte) (v >> (56 - 8 * i));
        for (int i = 8 - n; i < 8; i++) text.add(all[i] & 255);
        return text.size();
    }

    int clear() { int n = text.size(); text.clear(); return n; }

    int read() {
        StringBuilder all = new StringBuilder();
        for (int b : text) all.append((char) b);
        State fresh = new State();
        fresh.rates = s.rates;
        int answer = readInto(fresh, all.toString());
        if (answer > 0) { s = fresh; nights.clear(); }
        return answer;
    }

    private static final Pattern TOKEN = Pattern.compile(" *(?:([a-z]+)|([0-9]+)|(;)|(\\z)|([^ ]))", Pattern.DOTALL);
    private static final List<String> WORDS = List.of("people", "strong", "favour", "need");
    private static final int[][] HIGHEST = {{6}, {-1, 99}, {4, -1, -1, 3, 40, 99}, {-1, 3, 40, 99}};
    private static final int[][] LOWEST = {{2}, {0, 0}, {0, 0, 0, 0, 1, 0}, {0, 0, 1, 0}};

    private static int readInto(State fresh, String all) {
        Matcher m = TOKEN.matcher(all);
        int items = 0;
        int place = 0;
        while (true) {
            m.find(place);
            place = m.end();
            if (m.group(4) != null) return items > 0 ? items : -10 - all.length();
            int word = m.group(1) == null ? -1 : WORDS.indexOf(m.group(1));
            boolean stands = items == 0 ? word == 0 : word > 0;
            stands &= word != 2 || fresh.favours.size() < 12;
            stands &= word != 3 || fresh.needs.size() < 5;
            if (!stands) return -10 - startOf(m);
            int[] v = new int[HIGHEST[word].length];
            for (int i = 0; i < v.length; i++) {
                m.find(place);
                place = m.end();
                String figures = m.group(2);
                if (figures == null || figures.length() > 2) return -10 - startOf(m);
                v[i] = Integer.parseInt(figures);
                int high = HIGHEST[word][i] == -1 ? fresh.people.size() - 1 : HIGHEST[word][i];
                if (!in(v[i], LOWEST[word][i], high)) return -10 - startOf(m);
                if (word == 2 && i == 2 && v[2] == v[1]) return -10 - startOf(m);
            }
            m.find(place);
            place = m.end();
            if (m.group(3) == null) return -10 - startOf(m);
            if (word == 0) fresh.people = strangers(v[0]);
            if (word == 1) fresh.people.get(v[0])[0] = v[1];
            if (word == 2) fresh.favours.add(made(fresh, v[0], v[1], v[2], v[3], v[4], v[5]));
            if (word == 3) fresh.needs.add(new Need(v[0], v[1], v[2], v[3]));
            items++;
        }
    }

    private static int startOf(Matcher m) {
        for (int g = 1; g <= 5; g++) if (m.group(g) != null) return m.start(g);
        throw new IllegalStateException();
    }

    int value(int f, int day) {
        if (!favour(f) || !in(day, 0, 99)) return bad(-2);
        return s.favours.get(f).valueOn(day);
    }

    int of(int f) { return favour(f) ? s.favours.get(f).of : bad(-2); }

    int pass(int f, int to) {
        if (!favour(f) || !person(to) || s.favours.get(f).of == to) return bad(-10);
        Plain p = s.favours.get(f);
        if (now(f) == 0 || p instanceof Holy) return no(-20);
        if (p.by == to) { p.of = -1; return 0; }
        p.of = to;
        return 1;
    }

    int join(int f, int g) {
        if (!favour(f) || !favour(g) || f == g) return bad(-2);
        Plain a = s.favours.get(f), b = s.favours.get(g);
        if (now(f) == 0 || now(g) == 0) return no(-3);
        if (a.by != b.by || a.of != b.of || a.thing != b.thing) return no(-3);
        a.worth = a.worth + b.worth > 40 ? 40 : a.worth + b.worth;
        if (b.till < a.till) a.till = b.till;
        b.of = -1;
        return a.worth;
    }

    int ask(int f) {
        if (!favour(f)) return bad(-2);
        Plain p = s.favours.get(f);
        int v = now(f);
        int[] doer = s.people.get(p.by);
        if (v == 0 || doer[1] + v > doer[0]) return no(-3);
        doer[1] += v;
        p.of = -1;
        return v;
    }

    int night() {
        if (s.day == 99) return no(-3);
        nights.add(s.copy());
        if (nights.size() > 2) nights.remove(0);
        s.day++;
        for (int[] p : s.people) p[1] = 0;
        return s.day;
    }

    int undo() {
        if (nights.isEmpty()) return no(-3);
        s = nights.remove(nights.size() - 1);
        return 1;
    }

    private int owed(int by, int of, int day) {
        int sum = 0;
        for (Plain f : s.favours) if (f.by == by && f.of == of) sum += f.valueOn(day);
        return sum;
    }

    int owes(int by, int of) { return person(by) && person(of) && by != of ? owed(by, of, s.day) : bad(-1000); }

    /** All rows of unlike people that begin with their least; the best of those in which each owes the next. */
    private List<Integer> findRing() {
        List<List<Integer>> found = new ArrayList<>();
        grow(new ArrayList<>(), found);
        Comparator<List<Integer>> order = Comparator.comparing(List::size);
        found.sort(order.thenComparing(Model::compareRows));
        return found.isEmpty() ? List.of() : found.get(0);
    }

    private void grow(List<Integer> row, List<List<Integer>> found) {
        if (row.size() >= 2) {
            boolean ring = true;
            for (int i = 0; i < row.size(); i++) ring &= owed(row.get(i), row.get((i + 1) % row.size()), s.day) > 0;
            if (ring) found.add(List.copyOf(row));
        }
        for (int p = row.isEmpty() ? 0 : row.get(0) + 1; p < s.people.size(); p++) {
            if (!row.contains(p)) {
                row.add(p);
                grow(row, found);
                row.remove(row.size() - 1);
            }
        }
    }

    private static int compareRows(List<Integer> a, List<Integer> b) {
        for (int i = 0; i < a.size(); i++) if (!a.get(i).equals(b.get(i))) return a.get(i) - b.get(i);
        return 0;
    }

    int ring(int i) {
        if (i < -1) return bad(-10);
        List<Integer> ring = findRing();
        return i == -1 ? ring.size() : i >= ring.size() ? -5 : ring.get(i);
    }

    int cancel() {
        List<Integer> ring = findRing();
        if (ring.isEmpty()) return no(-3);
        for (int i = 0; i < ring.size(); i++) {
            int by = ring.get(i), of = ring.get((i + 1) % ring.size());
            Plain least = null;
            for (Plain f : s.favours) {
                if (f.by != by || f.of != of || f.valueOn(s.day) == 0) continue;
                if (least == null || f.valueOn(s.day) < least.valueOn(s.day)) least = f;
            }
            least.of = -1;
        }
        return ring.size();
    }

    private int netOf(int p) {
        int sum = 0;
        for (Plain f : s.favours) {
            if (f.of == p) sum += f.valueOn(s.day);
            if (f.by == p) sum -= f.valueOn(s.day);
        }
        return sum;
    }

    int net(int p) { return person(p) ? netOf(p) : bad(-10000); }

    int fewest() {
        int[] nets = new int[s.people.size()];
        for (int p = 0; p < nets.length; p++) nets[p] = netOf(p);
        return payments(nets, 0);
    }

    /** The first who is not even pays all of his with one other of the other sign; every such other is tried. */
    private static int payments(int[] nets, int at) {
        while (at < nets.length && nets[at] == 0) at++;
        if (at == nets.length) return 0;
        int best = 1000;
        for (int q = at + 1; q < nets.length; q++) {
            if (Integer.signum(nets[q]) == -Integer.signum(nets[at])) {
                nets[q] += nets[at];
                best = Math.min(best, 1 + payments(nets, at + 1));
                nets[q] -= nets[at];
            }
        }
        return best;
    }

    private Choice best() {
        List<Choice> best = new ArrayList<>();
        assign(new ArrayList<>(), best);
        return best.get(0);
    }

    private static boolean isBetter(Choice c, Choice best) {
        if (c.met != best.met) return c.met > best.met;
        if (c.spent != best.spent) return c.spent < best.spent;
        return comesFirst(c, best);
    }

    private static boolean comesFirst(Choice a, Choice b) {
        for (int i = 0; i < a.favours.size(); i++) {
            int x = a.favours.get(i) == -1 ? 99 : a.favours.get(i);
            int y = b.favours.get(i) == -1 ? 99 : b.favours.get(i);
            if (x != y) return x < y;
        }
        return false;
    }

    private void assign(List<Integer> favours, List<Choice> best) {
        int i = favours.size();
        if (i == s.needs.size()) {
            judge(favours, best);
            return;
        }
        Need n = s.needs.get(i);
        for (int f = -1; f < s.favours.size(); f++) {
            if (f >= 0) {
                Plain p = s.favours.get(f);
                if (favours.contains(f) || p.of != n.person || p.thing != n.thing || p.valueOn(n.day) < n.size) continue;
            }
            favours.add(f);
            assign(favours, best);
            favours.remove(i);
        }
    }

    private void judge(List<Integer> favours, List<Choice> best) {
        int[][] load = new int[s.people.size()][100];
        int met = 0, spent = 0;
        for (int i = 0; i < favours.size(); i++) {
            if (favours.get(i) == -1) continue;
            Plain p = s.favours.get(favours.get(i));
            int day = s.needs.get(i).day;
            load[p.by][day] += p.valueOn(day);
            if (load[p.by][day] > s.people.get(p.by)[0]) return;
            met++;
            spent += p.valueOn(day);
        }
        Choice c = new Choice(met, spent, List.copyOf(favours));
        if (best.isEmpty()) best.add(c);
        else if (isBetter(c, best.get(0))) best.set(0, c);
    }

    int met(int what) {
        if (!in(what, 0, 1)) return bad(-2);
        return what == 0 ? best().met : best().spent;
    }

    int plan(int need) { return need >= 0 && need < s.needs.size() ? best().favours.get(need) : bad(-2); }

    int fire(int day, int what) {
        if (!in(day, 0, 99) || !in(what, 0, 1)) return bad(-2);
        int n = s.people.size(), rounds = 0;
        boolean[] fell = new boolean[n];
        while (true) {
            boolean[] ahead = fell.clone();
            boolean somebody = false;
            for (int p = 0; p < n; p++) {
                int todo = 0, help = s.people.get(p)[0];
                for (Plain f : s.favours) {
                    if (f.by == p) todo += f.valueOn(day);
                    if (f.of == p && !ahead[f.by]) help += f.valueOn(day);
                }
                if (!ahead[p] && todo > help) { fell[p] = true; somebody = true; }
            }
            if (!somebody) break;
            rounds++;
        }
        int bits = 0;
        for (int p = 0; p < n; p++) if (fell[p]) bits |= 1 << p;
        return what == 0 ? bits : rounds;
    }

    private int[] nextRates(int[] rates) {
        int[] next = rates.clone();
        for (Need n : s.needs) next[n.thing]++;
        for (Plain f : s.favours) if (f.valueOn(s.day) > 0) next[f.thing]--;
        for (int t = 0; t < 4; t++) next[t] = next[t] < 1 ? 1 : next[t] > 99 ? 99 : next[t];
        return next;
    }

    int rate(int thing, int n) {
        if (!in(thing, 0, 3) || !in(n, 0, 99)) return bad(-2);
        int[] rates = s.rates;
        for (int i = 0; i < n; i++) rates = nextRates(rates);
        return rates[thing];
    }

    int set(int thing, int v) {
        if (!in(thing, 0, 3) || !in(v, 1, 99)) return bad(-2);
        int was = s.rates[thing];
        s.rates[thing] = v;
        return was;
    }

    int settles() {
        int[] rates = s.rates;
        for (int round = 0; round <= 99; round++) {
            int[] next = nextRates(rates);
            if (java.util.Arrays.equals(rates, next)) return round;
            rates = next;
        }
        return -1;
    }

    int told(int f, int from, int to) {
        if (!favour(f) || !person(from) || !person(to) || from == to) return bad(-2);
        if (s.passes.size() == 12) return full();
        s.passes.add(new Told(f, from, to));
        return s.passes.size() - 1;
    }

    int forged() {
        State then = s.copy();
        for (int i = 0; i < s.passes.size(); i++) {
            Told t = s.passes.get(i);
            Plain f = then.favours.get(t.favour);
            if (f.of != t.from) return i;
            f.of = t.to == f.by ? -1 : t.to;
        }
        return -1;
    }

    int forget() { int n = s.passes.size(); s.passes.clear(); return n; }

    int goesOff(int day) {
        if (!in(day, s.day, 99)) return bad(-2);
        int sum = 0;
        for (Plain f : s.favours) if (f.valueOn(day) < f.valueOn(s.day)) sum += f.valueOn(s.day) - f.valueOn(day);
        return sum;
    }

    /** Each of the ways in which the favours are kept or not, one by one. */
    int kept(int w, int k) {
        if (!in(w, 0, 10) || !in(k, 0, 5)) return bad(-2);
        int m = best().met;
        BigInteger good = BigInteger.ZERO;
        for (int bits = 0; bits < 1 << m; bits++) {
            if (Integer.bitCount(bits) < k) continue;
            BigInteger way = BigInteger.ONE;
            for (int i = 0; i < m; i++) way = way.multiply(BigInteger.valueOf((bits >> i & 1) == 1 ? w : 10 - w));
            good = good.add(way);
        }
        BigInteger all = BigInteger.TEN.pow(m), common = good.gcd(all);
        above = good.divide(common).longValueExact();
        below = all.divide(common).longValueExact();
        return 1;
    }

    long part(int what) { return what == 0 ? above : what == 1 ? below : bad(-2); }

    private static Kept copyOf(Kept k) {
        List<State> nights = new ArrayList<>();
        for (State n : k.nights) nights.add(n.copy());
        return new Kept(k.state.copy(), nights);
    }

    int image(int i) {
        if (!in(i, 0, 1)) return bad(-2);
        images[i] = copyOf(new Kept(s, nights));
        return 1;
    }

    int from(int i) {
        if (!in(i, 0, 1)) return bad(-2);
        if (images[i] == null) return no(-3);
        Kept k = copyOf(images[i]);
        s = k.state;
        nights = k.nights;
        return 1;
    }

    int status(int what) { return in(what, 0, 2) ? status[what] : bad(-1); }

    int count(int what) {
        if (!in(what, 0, 6)) return bad(-2);
        return new int[] {s.people.size(), s.favours.size(), s.needs.size(), s.passes.size(), s.day, nights.size(), text.size()}[what];
    }

    long digest() {
        List<Long> all = new ArrayList<>();
        for (int i = 0; i < 7; i++) all.add((long) count(i));
        for (int[] p : s.people) { all.add((long) p[0]); all.add((long) p[1]); }
        for (Plain f : s.favours) for (int v : new int[] {f.kindNumber(), f.by, f.of, f.thing, f.worth, f.till, f.made}) all.add((long) v);
        for (Need n : s.needs) for (int v : new int[] {n.person, n.thing, n.size, n.day}) all.add((long) v);
        for (Told t : s.passes) for (int v : new int[] {t.favour, t.from, t.to}) all.add((long) v);
        for (int r : s.rates) all.add((long) r);
        all.add(above);
        all.add(below);
        long h = 683;
        for (long v : all) h = 31 * h + v;
        return h;
    }
}
