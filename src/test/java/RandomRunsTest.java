import java.util.ArrayList;
import java.util.List;

/** Runs of calls that a fixed row of numbers draws, asked of the class and of the model; each answer must be the same. */
public final class RandomRunsTest {
    private static final int RUNS = 3000, CALLS = 512;
    private static final int[] ODD = {-1, -2, -3, Integer.MIN_VALUE, Integer.MAX_VALUE, 1 << 30, 1000};

    private final FavoursGoOff x = new FavoursGoOff();
    private final Model y = new Model();
    private final List<String> calls = new ArrayList<>();
    private long seed;
    private int left = CALLS;
    private int wrong;
    /* How many people, things and days a run draws from: few, so that much falls on the same. */
    private final int things;
    private final int days;

    private RandomRunsTest(int run) {
        seed = run * 0x9E3779B97F4A7C15L + 1;
        things = 1 + draw(4);
        days = draw(2) == 0 ? 12 : 100;
    }

    public static void main(String[] args) {
        int[] seen = new int[SORTS];
        long answers = 0;
        for (int run = 1; run <= RUNS; run++) {
            RandomRunsTest r = new RandomRunsTest(run);
            r.go(seen);
            answers += CALLS - r.left;
            if (r.wrong != 0) {
                System.out.println("RandomRunsTest: run " + run);
                r.calls.forEach(System.out::println);
                System.exit(1);
            }
        }
        for (int sort = 0; sort < SORTS; sort++) {
            if (seen[sort] == 0) {
                System.out.println("RandomRunsTest: nothing of sort " + sort + " was asked");
                System.exit(1);
            }
        }
        System.out.println("RandomRunsTest: " + RUNS + " runs, " + answers + " answers, 0 wrong");
    }

    /* How often each sort of call is drawn, in the order of the document's face (its numbers less 2). What makes
       a street anew or empty is drawn seldom, so that streets grow old and full. */
    private static final int[] WEIGHTS = {
        1, 20, 60, 30, 1, 4, 2, 3, 12, 12,
        12, 8, 6, 6, 3,
        6, 20, 2, 8, 10, 10, 14, 14, 8, 3, 6, 14, 8, 1, 8, 8, 14,
        3, 3, 2, 3, 6, 6};
    private static final int SORTS = WEIGHTS.length;

    private void go(int[] seen) {
        if (draw(3) == 0) {
            write(12);
            same("read()", x.read(), y.read());
        }
        int all = 0;
        for (int weight : WEIGHTS) all += weight;
        /* A text may take some forty calls; no run may go past the last call that is promised. */
        while (left > 80 && wrong == 0) {
            int d = draw(all), sort = 0;
            while (d >= WEIGHTS[sort]) d -= WEIGHTS[sort++];
            seen[sort]++;
            call(sort);
        }
    }

    private int draw(int n) {
        seed = seed * 6364136223846793005L + 1442695040888963407L;
        return (int) ((seed >>> 33) % n);
    }

    private int mostly(int low, int high) {
        int d = draw(60);
        if (d == 0) return ODD[draw(ODD.length)];
        if (d == 1) return low - 1;
        if (d == 2) return high + 1;
        return low + draw(high - low + 1);
    }

    private int person() { return mostly(0, y.count(0) - 1); }
    private int favour() { return mostly(0, Math.max(0, y.count(1) - 1)); }
    private int thing() { return draw(30) == 0 ? mostly(0, 3) : draw(things); }
    private int day() { return Math.min(mostly(0, days - 1) + (draw(2) == 0 ? 0 : y.count(4)), Integer.MAX_VALUE - 1); }

    private void same(String call, long got, long want) {
        left--;
        calls.add(call + " answered " + got + (got == want ? "" : ", the model " + want));
        if (got != want) wrong++;
    }

    private void call(int sort) {
        if (sort < 10) callStreet(sort);
        else if (sort < 15) callDeed(sort);
        else if (sort < 32) callOwed(sort);
        else callThere(sort);
        if (draw(4) == 0) same("digest()", x.digest(), y.digest());
    }

    private void callStreet(int sort) {
        int a = draw(3) == 0 ? person() : 0, b = draw(3) == 0 ? person() : 1, c = favour();
        switch (sort) {
            case 0: { int n = mostly(2, 6); same("people(" + n + ")", x.people(n), y.people(n)); break; }
            case 1: { int v = draw(2) == 0 ? mostly(0, 99) : mostly(0, 25); same("strong(" + a + ", " + v + ")", x.strong(a, v), y.strong(a, v)); break; }
            case 2: {
                if (draw(2) == 0 && y.count(0) > 2) {
                    a = person();
                    b = person();
                }
                int kind = mostly(0, 4), thing = thing(), worth = draw(2) == 0 ? mostly(1, 40) : mostly(1, 9), till = day();
                String call = "favour(" + kind + ", " + a + ", " + b + ", " + thing + ", " + worth + ", " + till + ")";
                same(call, x.favour(kind, a, b, thing, worth, till), y.favour(kind, a, b, thing, worth, till));
                break;
            }
            case 3: {
                int thing = thing(), size = draw(4) == 0 ? mostly(1, 40) : mostly(1, 5), day = draw(2) == 0 ? y.count(4) : day();
                int p = draw(3) == 0 ? a : b;
                String call = "need(" + p + ", " + thing + ", " + size + ", " + day + ")";
                same(call, x.need(p, thing, size, day), y.need(p, thing, size, day));
                break;
            }
            case 4: same("contented()", x.contented(), y.contented()); break;
            case 5: {
                long v = ((long) draw(1 << 30) << 34) ^ ((long) draw(1 << 30) << 8) ^ draw(256);
                int n = mostly(1, 8);
                same("type(" + v + ", " + n + ")", x.type(v, n), y.type(v, n));
                break;
            }
            case 6: same("clear()", x.clear(), y.clear()); break;
            case 7: write(draw(3) == 0 ? 12 : 0); same("read()", x.read(), y.read()); break;
            case 8: { int d = mostly(0, 99); same("value(" + c + ", " + d + ")", x.value(c, d), y.value(c, d)); break; }
            default: same("of(" + c + ")", x.of(c), y.of(c)); break;
        }
    }

    private void callDeed(int sort) {
        int f = favour(), g = favour(), p = person();
        switch (sort) {
            case 10: same("pass(" + f + ", " + p + ")", x.pass(f, p), y.pass(f, p)); break;
            case 11: same("join(" + f + ", " + g + ")", x.join(f, g), y.join(f, g)); break;
            case 12: same("ask(" + f + ")", x.ask(f), y.ask(f)); break;
            case 13: same("night()", x.night(), y.night()); break;
            default: same("undo()", x.undo(), y.undo()); break;
        }
    }

    private void callOwed(int sort) {
        int a = person(), b = person(), f = favour(), day = day() % 110;
        switch (sort) {
            case 15: same("owes(" + a + ", " + b + ")", x.owes(a, b), y.owes(a, b)); break;
            case 16: { int i = mostly(-1, 6); same("ring(" + i + ")", x.ring(i), y.ring(i)); break; }
            case 17: same("cancel()", x.cancel(), y.cancel()); break;
            case 18: same("net(" + a + ")", x.net(a), y.net(a)); break;
            case 19: same("fewest()", x.fewest(), y.fewest()); break;
            case 20: { int w = mostly(0, 1); same("met(" + w + ")", x.met(w), y.met(w)); break; }
            case 21: case 31: { int n = mostly(0, 4); same("plan(" + n + ")", x.plan(n), y.plan(n)); break; }
            case 22: { int w = mostly(0, 1); same("fire(" + day + ", " + w + ")", x.fire(day, w), y.fire(day, w)); break; }
            case 23: { int t = thing(), n = mostly(0, 99); same("rate(" + t + ", " + n + ")", x.rate(t, n), y.rate(t, n)); break; }
            case 24: { int t = thing(), v = mostly(1, 99); same("set(" + t + ", " + v + ")", x.set(t, v), y.set(t, v)); break; }
            case 25: same("settles()", x.settles(), y.settles()); break;
            case 26: {
                /* Half of those told are true ones, so that long rows of passes can stand. */
                int from = draw(2) == 0 && f >= 0 && f < y.count(1) ? y.of(f) : a;
                same("told(" + f + ", " + from + ", " + b + ")", x.told(f, from, b), y.told(f, from, b));
                break;
            }
            case 27: same("forged()", x.forged(), y.forged()); break;
            case 28: same("forget()", x.forget(), y.forget()); break;
            case 29: same("goesOff(" + day + ")", x.goesOff(day), y.goesOff(day)); break;
            default: {
                int w = mostly(0, 10), k = draw(2) == 0 ? mostly(0, 5) : mostly(0, 2);
                same("kept(" + w + ", " + k + ")", x.kept(w, k), y.kept(w, k));
                same("part(0)", x.part(0), y.part(0));
                same("part(1)", x.part(1), y.part(1));
            }
        }
    }

    private void callThere(int sort) {
        int i = mostly(0, 1);
        switch (sort) {
            case 32: { int w = mostly(0, 1); same("part(" + w + ")", x.part(w), y.part(w)); break; }
            case 33: same("image(" + i + ")", x.image(i), y.image(i)); break;
            case 34: same("from(" + i + ")", x.from(i), y.from(i)); break;
            case 35: { int w = mostly(0, 2); same("status(" + w + ")", x.status(w), y.status(w)); break; }
            case 36: { int w = mostly(0, 6); same("count(" + w + ")", x.count(w), y.count(w)); break; }
            default: same("digest()", x.digest(), y.digest()); break;
        }
    }

    /** A street's text, often with a little wrong in it, put in the place of what there was. */
    private void write(int least) {
        StringBuilder all = new StringBuilder();
        int n = 2 + draw(5);
        item(all, "people", n);
        int most = least + draw(20 - least);
        for (int i = 0; i < most; i++) {
            int was = all.length();
            int a = draw(n), b = (a + 1 + draw(n - 1)) % n;
            switch (draw(5)) {
                case 0: item(all, "strong", a, draw(100)); break;
                case 1: item(all, "need", a, draw(things), 1 + draw(10), draw(days)); break;
                default: item(all, "favour", draw(5), a, b, draw(things), 1 + draw(9), draw(days)); break;
            }
            if (least > 0 && all.length() > 250) {
                all.setLength(was);
                break;
            }
        }
        for (int d = least > 0 ? 0 : draw(3); d > 0 && all.length() > 0; d--) {
            int at = draw(all.length());
            char sign = " ;abpn0159x\u00e9".charAt(draw(12));
            switch (draw(4)) {
                case 0: all.insert(at, sign); break;
                case 1: all.deleteCharAt(at); break;
                case 2: all.setCharAt(at, sign); break;
                default: all.setLength(at); break;
            }
        }
        all.setLength(Math.min(all.length(), 250));
        same("clear()", x.clear(), y.clear());
        calls.add("the text is: " + all);
        type(all);
    }

    private void type(StringBuilder all) {
        for (int at = 0; at < all.length(); at += 8) {
            int n = Math.min(8, all.length() - at);
            long v = draw(1 << 30);
            for (int i = 0; i < n; i++) v = v << 8 | all.charAt(at + i);
            same("type(" + v + ", " + n + ")", x.type(v, n), y.type(v, n));
        }
    }

    private void item(StringBuilder all, String word, int... numbers) {
        blanks(all);
        all.append(word);
        for (int i = 0; i < numbers.length; i++) {
            if (i > 0) all.append(' ');
            blanks(all);
            if (numbers[i] < 10 && draw(9) == 0) all.append('0');
            all.append(numbers[i]);
        }
        blanks(all);
        all.append(';');
    }

    private void blanks(StringBuilder all) {
        for (int i = draw(6); i > 4; i--) all.append(' ');
    }
}
