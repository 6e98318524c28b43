/** Promises 17 to 32: what is owed. */
public final class OwedTest {
    private static final Answers A = new Answers();
    private static final int LOW = Integer.MIN_VALUE, HIGH = Integer.MAX_VALUE;

    public static void main(String[] args) {
        promise17();
        promise18();
        promise18Fewest();
        promise19();
        promise20();
        promise21();
        promise22And23Choice();
        promise22And23Strength();
        promise22And23Ties();
        promise22And23Anew();
        promise22And23Wrong();
        promise24();
        promise24Rounds();
        promise25And27();
        promise26();
        promise28();
        promise29();
        promise30();
        promise31();
        promise32();
        A.end("OwedTest");
    }

    private static void owe(FavoursGoOff x, int by, int of, int worth) {
        x.favour(0, by, of, 0, worth, 99);
    }

    private static void promise17() {
        FavoursGoOff x = new FavoursGoOff();
        owe(x, 0, 1, 5);
        owe(x, 0, 1, 6);
        owe(x, 1, 0, 7);
        owe(x, 0, 2, 8);
        x.favour(1, 0, 1, 3, 9, 99);
        x.favour(3, 0, 1, 3, 40, 99);
        A.due("owes", x.owes(0, 1), 20);
        A.due("owes the other way", x.owes(1, 0), 7);
        A.due("owes another", x.owes(0, 2), 8);
        A.due("owes nothing", x.owes(2, 0), 0);
        x.night();
        A.due("owes now", x.owes(0, 1), 19);
        x.ask(0);
        A.due("owes, GONE", x.owes(0, 1), 14);
        int[][] bad = {{0, 0}, {-1, 0}, {0, -1}, {4, 0}, {0, 4}, {LOW, HIGH}, {7, 7}};
        for (int[] b : bad) {
            A.due("owes, bad", x.owes(b[0], b[1]), -1000);
        }
        A.due("owes: BAD", x.status(0), bad.length);
    }

    private static void promise18() {
        FavoursGoOff x = new FavoursGoOff();
        A.due("no ring", x.ring(-1), 0);
        A.due("no ring, the first", x.ring(0), -5);
        A.due("no ring, far off", x.ring(HIGH), -5);
        A.due("not so many is not refused", x.status(0) + x.status(1) + x.status(2), 0);
        A.due("ring(-2)", x.ring(-2), -10);
        A.due("ring(LOW)", x.ring(LOW), -10);
        A.due("ring: BAD", x.status(0), 2);
        x.people(6);
        int[] row = {0, 4, 2, 5, 1, 3};
        for (int i = 0; i < 6; i++) {
            A.due("no ring yet", x.ring(-1), 0);
            owe(x, row[i], row[(i + 1) % 6], 1);
        }
        A.due("a ring of all", x.ring(-1), 6);
        for (int i = 0; i < 6; i++) {
            A.due("a ring of all: " + i, x.ring(i), row[i]);
        }
        A.due("a ring of all: 6", x.ring(6), -5);
        owe(x, 3, 2, 1);
        A.due("a shorter one", x.ring(-1), 4);
        int[] shorter = {1, 3, 2, 5};
        for (int i = 0; i < 4; i++) {
            A.due("a shorter one: " + i, x.ring(i), shorter[i]);
        }
        A.due("a shorter one: 4", x.ring(4), -5);
    }

    private static void promise18Fewest() {
        FavoursGoOff x = new FavoursGoOff();
        x.people(5);
        owe(x, 2, 4, 3);
        owe(x, 4, 3, 3);
        owe(x, 3, 2, 3);
        A.due("the later three", x.ring(0) * 100 + x.ring(1) * 10 + x.ring(2), 243);
        owe(x, 1, 4, 3);
        owe(x, 3, 1, 3);
        A.due("the first by numbers", x.ring(0) * 100 + x.ring(1) * 10 + x.ring(2), 143);
        owe(x, 0, 4, 3);
        owe(x, 3, 0, 3);
        A.due("from the least on", x.ring(0) * 100 + x.ring(1) * 10 + x.ring(2), 43);
        owe(x, 1, 3, 3);
        A.due("fewest first", x.ring(0) * 10 + x.ring(1) + 100 * x.ring(-1), 213);
        x.favour(3, 0, 3, 0, 5, 1);
        A.due("of VALUE 0 now", x.ring(0), 1);
        x.night();
        A.due("of VALUE above 0 now", x.ring(0) * 10 + x.ring(1), 3);
    }

    private static void promise19() {
        FavoursGoOff x = new FavoursGoOff();
        A.due("cancel, no ring", x.cancel(), -3);
        A.due("cancel: NO", x.status(1), 1);
        x.favour(3, 0, 1, 0, 1, 50);
        owe(x, 0, 1, 7);
        owe(x, 0, 1, 6);
        x.favour(1, 0, 1, 0, 7, 99);
        x.favour(0, 1, 2, 0, 5, 99);
        x.favour(0, 1, 2, 0, 5, 99);
        owe(x, 2, 0, 1);
        owe(x, 2, 3, 1);
        x.night();
        A.due("cancel", x.cancel(), 3);
        int[] of = {1, 1, -1, 1, -1, 2, -1, 3};
        for (int f = 0; f < of.length; f++) {
            A.due("cancel: of(" + f + ")", x.of(f), of[f]);
        }
        A.due("cancel, again", x.cancel(), -3);
        owe(x, 1, 0, 9);
        A.due("cancel two", x.cancel(), 2);
        A.due("the VALUE, not the WORTH", x.of(3), -1);
        A.due("and not the other", x.of(1), 1);
        A.due("of two, the other's", x.of(8), -1);
        owe(x, 1, 0, 9);
        A.due("cancel the last", x.cancel(), 2);
        A.due("the UNBORN one stays", x.of(0), 1);
    }

    private static void promise20() {
        FavoursGoOff x = new FavoursGoOff();
        owe(x, 0, 1, 10);
        owe(x, 2, 0, 4);
        owe(x, 1, 2, 3);
        x.favour(1, 3, 0, 0, 9, 99);
        int[] nets = {3, 7, -1, -9};
        for (int p = 0; p < 4; p++) {
            A.due("net(" + p + ")", x.net(p), nets[p]);
        }
        x.night();
        A.due("net now", x.net(3), -8);
        x.ask(0);
        A.due("net, GONE", x.net(1), -3);
        for (int p : new int[] {-1, 4, LOW, HIGH}) {
            A.due("net(" + p + ")", x.net(p), -10000);
        }
        A.due("net: BAD", x.status(0), 4);
        A.due("a low net is not refused", x.net(3), -8);
    }

    private static void promise21() {
        FavoursGoOff x = new FavoursGoOff();
        A.due("fewest, none", x.fewest(), 0);
        owe(x, 0, 1, 10);
        A.due("fewest, one", x.fewest(), 1);
        owe(x, 1, 2, 10);
        A.due("fewest, passed on", x.fewest(), 1);
        owe(x, 2, 0, 10);
        A.due("fewest, a ring", x.fewest(), 0);
        x.people(6);
        owe(x, 0, 1, 5);
        owe(x, 0, 2, 7);
        owe(x, 3, 4, 4);
        owe(x, 3, 5, 9);
        A.due("nets -12 5 7 -13 4 9", x.fewest(), 4);
        owe(x, 0, 3, 1);
        A.due("nets -13 5 7 -12 4 9: two threes", x.fewest(), 4);
        x.people(6);
        owe(x, 0, 1, 1);
        owe(x, 0, 2, 1);
        owe(x, 3, 1, 4);
        owe(x, 3, 4, 2);
        A.due("nets -2 5 1 -6 2 0", x.fewest(), 3);
        owe(x, 5, 0, 40);
        owe(x, 5, 1, 3);
        A.due("nets 38 8 1 -6 2 -43", x.fewest(), 5);
        x.people(4);
        x.favour(1, 0, 1, 0, 1, 99);
        owe(x, 2, 3, 1);
        A.due("two pairs", x.fewest(), 2);
        x.night();
        A.due("one gone off", x.fewest(), 1);
    }

    private static void promise22And23Choice() {
        FavoursGoOff x = new FavoursGoOff();
        A.due("met, no needs", x.met(0), 0);
        A.due("spent, no needs", x.met(1), 0);
        x.need(1, 2, 10, 3);
        A.due("met, no favours", x.met(0), 0);
        A.due("plan, none", x.plan(0), -1);
        x.favour(0, 0, 2, 2, 10, 3);
        A.due("of another", x.met(0), 0);
        x.favour(0, 0, 1, 1, 10, 3);
        A.due("another THING", x.met(0), 0);
        x.favour(0, 0, 1, 2, 9, 3);
        A.due("less than SIZE", x.met(0), 0);
        x.favour(0, 0, 1, 2, 10, 2);
        A.due("gone off by that DAY", x.met(0), 0);
        x.favour(1, 0, 1, 2, 12, 9);
        A.due("faded by that DAY", x.met(0), 0);
        x.favour(3, 0, 1, 2, 12, 3);
        A.due("UNBORN now", x.plan(0), 5);
        A.due("spent on that DAY", x.met(1), 12);
        x.favour(1, 0, 1, 2, 14, 9);
        A.due("less spent", x.plan(0), 6);
        A.due("spent: of that DAY", x.met(1), 11);
        x.favour(0, 2, 1, 2, 10, 3);
        A.due("the least", x.plan(0), 7);
        A.due("met", x.met(0), 1);
        x.ask(7);
        A.due("GONE", x.plan(0), 6);
        x.need(1, 2, 1, 3);
        x.strong(0, 19);
        A.due("nobody can do both on a DAY", x.met(0), 1);
        A.due("the least VALUE in all", x.met(1), 9);
        A.due("the first need has none", x.plan(0), -1);
        A.due("the second has the cheapest", x.plan(1), 2);
        x.strong(0, 99);
        A.due("both", x.met(0), 2);
        A.due("both: spent", x.met(1), 20);
        A.due("both: plan(0)", x.plan(0), 6);
        A.due("both: plan(1)", x.plan(1), 2);
    }

    private static void promise22And23Strength() {
        FavoursGoOff x = new FavoursGoOff();
        x.strong(0, 10);
        owe(x, 0, 1, 6);
        owe(x, 0, 1, 4);
        owe(x, 0, 1, 5);
        owe(x, 2, 1, 9);
        x.need(1, 0, 4, 1);
        x.need(1, 0, 4, 1);
        A.due("9 of 10", x.met(1), 9);
        A.due("the first by NEEDS", x.plan(0) * 10 + x.plan(1), 12);
        x.need(1, 0, 4, 1);
        A.due("a third by another", x.met(0), 3);
        A.due("a third: spent", x.met(1), 18);
        A.due("a third: the first", x.plan(0) * 100 + x.plan(1) * 10 + x.plan(2), 123);
        x.contented();
        x.need(1, 0, 6, 1);
        x.need(1, 0, 4, 1);
        x.need(1, 0, 4, 2);
        A.due("two DAYS", x.met(0), 3);
        A.due("two DAYS: spent", x.met(1), 15);
        A.due("two DAYS: plan", x.plan(0) * 100 + x.plan(1) * 10 + x.plan(2), 12);
        x.strong(0, 9);
        A.due("weaker: spent", x.met(1), 9 + 4 + 5);
        A.due("weaker: plan", x.plan(0) * 100 + x.plan(1) * 10 + x.plan(2), 312);
        x.strong(2, 0);
        A.due("weaker still", x.met(0), 2);
        A.due("weaker still: spent", x.met(1), 9);
        A.due("weaker still: none, then 1 and 2", x.plan(0) * 100 + x.plan(1) * 10 + x.plan(2), -100 + 12);
        x.favour(0, 3, 1, 3, 20, 99);
        A.due("ask now", x.ask(4), 20);
        x.contented();
        owe(x, 3, 1, 20);
        x.need(1, 0, 10, 0);
        A.due("of the plan's VALUES alone", x.met(0), 1);
    }

    private static void promise22And23Ties() {
        FavoursGoOff x = new FavoursGoOff();
        for (int f = 0; f < 12; f++) {
            owe(x, f % 2 * 2, 1, 1);
        }
        for (int n = 0; n < 5; n++) {
            x.need(1, 0, 1, n);
        }
        A.due("all", x.met(0), 5);
        for (int n = 0; n < 5; n++) {
            A.due("rising: " + n, x.plan(n), n);
        }
        x.strong(0, 0);
        A.due("all by one", x.met(1), 5);
        for (int n = 0; n < 5; n++) {
            A.due("by one, rising: " + n, x.plan(n), 2 * n + 1);
        }
        x.strong(2, 0);
        A.due("nobody can", x.met(0), 0);
        x.contented();
        x.people(4);
        owe(x, 0, 1, 5);
        x.need(1, 0, 5, 0);
        x.need(1, 0, 5, 0);
        A.due("none is behind all", x.plan(0), 0);
        A.due("none", x.plan(1), -1);
        A.due("NONE is not refused", x.status(0) + x.status(1), 0);
        x.night();
        A.due("a DAY that is over by now", x.met(0), 1);
    }

    /** MET follows each call that can change it. */
    private static void promise22And23Anew() {
        FavoursGoOff x = new FavoursGoOff();
        owe(x, 0, 1, 5);
        owe(x, 0, 1, 6);
        owe(x, 0, 1, 7);
        x.favour(3, 1, 0, 0, 1, 0);
        x.need(1, 0, 5, 5);
        A.due("anew: first", x.plan(0), 0);
        x.image(0);
        x.night();
        x.cancel();
        A.due("anew: cancel", x.plan(0), 1);
        x.pass(1, 2);
        A.due("anew: pass", x.plan(0), 2);
        x.undo();
        A.due("anew: undo", x.plan(0), 0);
        x.join(0, 1);
        A.due("anew: join", x.plan(0), 2);
        x.from(0);
        A.due("anew: from", x.plan(0), 0);
        x.ask(0);
        A.due("anew: ask", x.plan(0), 1);
        x.strong(0, 5);
        A.due("anew: strong", x.plan(0), -1);
        owe(x, 3, 1, 5);
        A.due("anew: favour", x.plan(0), 4);
        x.need(1, 0, 1, 5);
        A.due("anew: need", x.plan(0) * 10 + x.plan(1), 39);
        x.contented();
        A.due("anew: contented", x.met(0), 0);
        Answers.readText(x, "people 2; favour 0 0 1 0 5 9; need 1 0 5 0;");
        A.due("anew: read", x.met(1), 5);
        x.people(2);
        A.due("anew: people", x.met(1), 0);
    }

    private static void promise22And23Wrong() {
        FavoursGoOff x = new FavoursGoOff();
        x.need(1, 0, 5, 0);
        for (int what : new int[] {-1, 2, LOW, HIGH}) {
            A.due("met(" + what + ")", x.met(what), -2);
            A.due("plan", x.plan(what == 2 ? 1 : what), -2);
        }
        A.due("met, plan: BAD", x.status(0), 8);
        long h = x.digest();
        x.met(0);
        x.plan(0);
        A.due("met, plan: nothing changes", x.digest(), h);
    }

    private static void promise24() {
        FavoursGoOff x = new FavoursGoOff();
        A.due("fire, nothing owed", x.fire(0, 0) + x.fire(99, 1), 0);
        owe(x, 0, 1, 20);
        A.due("no more than STRENGTH", x.fire(0, 0), 0);
        owe(x, 0, 2, 1);
        A.due("more", x.fire(0, 0), 1);
        A.due("more: ROUNDS", x.fire(0, 1), 1);
        owe(x, 3, 0, 1);
        A.due("helped", x.fire(0, 0), 0);
        A.due("helped: ROUNDS", x.fire(0, 1), 0);
        x.favour(3, 0, 1, 0, 5, 10);
        A.due("UNBORN", x.fire(9, 0), 0);
        A.due("born", x.fire(10, 0), 1);
        x.night();
        A.due("a DAY that is over", x.fire(0, 0), 0);
        int[][] bad = {{-1, 0}, {100, 0}, {0, -1}, {0, 2}, {LOW, HIGH}, {HIGH, LOW}};
        for (int[] b : bad) {
            A.due("fire, bad", x.fire(b[0], b[1]), -2);
        }
        A.due("fire: BAD", x.status(0), bad.length);
        x.ask(0);
        A.due("fire, GONE", x.fire(10, 0), 0);
    }

    private static void promise24Rounds() {
        FavoursGoOff x = new FavoursGoOff();
        x.people(6);
        for (int p = 0; p < 6; p++) {
            x.strong(p, 0);
            if (p < 5) {
                owe(x, p, p + 1, 5);
            }
        }
        A.due("one falls, and so the next", x.fire(0, 0), 31);
        A.due("five ROUNDS", x.fire(0, 1), 5);
        x.strong(2, 5);
        A.due("held", x.fire(0, 0), 3);
        A.due("two ROUNDS", x.fire(0, 1), 2);
        x.strong(2, 4);
        A.due("not quite", x.fire(0, 0), 31);
        x.people(6);
        for (int p = 0; p < 6; p++) {
            x.strong(p, 0);
            owe(x, p, (p + 1) % 6, p == 5 ? 4 : 5);
        }
        A.due("all fall", x.fire(0, 0), 63);
        A.due("six ROUNDS", x.fire(0, 1), 6);
        x.people(3);
        x.strong(0, 0);
        x.strong(1, 0);
        owe(x, 0, 1, 9);
        owe(x, 1, 0, 8);
        owe(x, 1, 2, 5);
        A.due("by how it is ahead of the ROUND", x.fire(0, 1), 1);
        A.due("both in one ROUND", x.fire(0, 0), 3);
        x.people(2);
        x.strong(0, 0);
        x.strong(1, 0);
        owe(x, 0, 1, 5);
        owe(x, 1, 0, 5);
        A.due("they hold one another", x.fire(0, 0), 0);
    }

    private static void promise25And27() {
        FavoursGoOff x = new FavoursGoOff();
        A.due("settles at once", x.settles(), 0);
        x.need(1, 0, 5, 0);
        x.need(1, 0, 5, 0);
        A.due("rate(0, 0)", x.rate(0, 0), 10);
        A.due("rate(0, 1)", x.rate(0, 1), 12);
        A.due("rate(0, 44)", x.rate(0, 44), 98);
        A.due("rate(0, 45)", x.rate(0, 45), 99);
        A.due("rate(0, 99)", x.rate(0, 99), 99);
        A.due("settles", x.settles(), 45);
        owe(x, 0, 1, 5);
        A.due("one less", x.rate(0, 3), 13);
        A.due("settles later", x.settles(), 89);
        x.favour(0, 0, 1, 2, 5, 0);
        x.favour(3, 0, 1, 2, 5, 9);
        A.due("VALUE above 0 now alone", x.rate(2, 3), 7);
        A.due("1 at least", x.rate(2, 99), 1);
        A.due("another THING", x.rate(1, 99), 10);
        x.set(0, 99);
        A.due("held at 99", x.rate(0, 1), 99);
        A.due("the last THING to settle", x.settles(), 9);
        x.set(2, 1);
        A.due("held from the first", x.settles(), 0);
        x.set(0, 1);
        A.due("settles last of all", x.settles(), 98);
        x.night();
        A.due("gone off", x.rate(2, 99), 1);
        int[][] bad = {{-1, 0}, {4, 0}, {0, -1}, {0, 100}, {LOW, HIGH}, {HIGH, LOW}};
        for (int[] b : bad) {
            A.due("rate, bad", x.rate(b[0], b[1]), -2);
        }
        A.due("rate: BAD", x.status(0), bad.length);
        A.due("RATES stay", x.rate(0, 0), 1);
    }

    private static void promise26() {
        FavoursGoOff x = new FavoursGoOff();
        A.due("set(0, 1)", x.set(0, 1), 10);
        A.due("set(0, 99)", x.set(0, 99), 1);
        A.due("set(3, 5)", x.set(3, 5), 10);
        A.due("set: rate", x.rate(0, 0), 99);
        int[][] bad = {{-1, 5}, {4, 5}, {0, 0}, {0, 100}, {LOW, HIGH}, {HIGH, LOW}};
        for (int[] b : bad) {
            A.due("set, bad", x.set(b[0], b[1]), -2);
        }
        A.due("set: BAD", x.status(0), bad.length);
        A.due("set: stays", x.rate(0, 0), 99);
    }

    private static void promise28() {
        FavoursGoOff x = new FavoursGoOff();
        A.due("told, no favour", x.told(0, 0, 1), -2);
        owe(x, 0, 1, 5);
        int[][] bad = {{1, 0, 1}, {-1, 0, 1}, {0, -1, 1}, {0, 4, 1}, {0, 0, -1}, {0, 0, 4}, {0, 2, 2}, {HIGH, LOW, HIGH}};
        for (int[] b : bad) {
            A.due("told, bad", x.told(b[0], b[1], b[2]), -2);
        }
        for (int i = 0; i < 12; i++) {
            A.due("told", x.told(0, i % 4, (i + 1) % 4), i);
        }
        A.due("a 13th", x.told(0, 0, 1), -4);
        A.due("a 13th, bad", x.told(0, 1, 1), -2);
        A.due("told: BAD", x.status(0), bad.length + 2);
        A.due("told: FULL", x.status(2), 1);
        A.due("told: of it stays", x.of(0), 1);
        x.forget();
        x.ask(0);
        A.due("told, GONE", x.told(0, 1, 2), 0);
    }

    private static void promise29() {
        FavoursGoOff x = new FavoursGoOff();
        A.due("none told", x.forged(), -1);
        x.favour(0, 0, 1, 0, 5, 9);
        x.favour(2, 2, 3, 0, 5, 0);
        x.favour(3, 2, 3, 0, 5, 9);
        x.told(0, 1, 2);
        x.told(0, 2, 3);
        x.told(1, 3, 0);
        x.told(2, 3, 1);
        x.told(0, 3, 1);
        A.due("as if all could be passed", x.forged(), -1);
        x.told(1, 0, 2);
        A.due("home", x.forged(), -1);
        x.told(1, 2, 3);
        A.due("from home on nobody has it", x.forged(), 6);
        x.told(0, 2, 3);
        A.due("the first", x.forged(), 6);
        A.due("NONE is not refused", x.status(0) + x.status(1), 0);
        x.pass(0, 3);
        A.due("from how it is now", x.forged(), 0);
        A.due("forged: nothing changes", x.of(0), 3);
        x.forget();
        x.told(0, 3, 1);
        x.told(0, 3, 2);
        A.due("he has it no more", x.forged(), 1);
        x.ask(0);
        A.due("GONE ones nobody has", x.forged(), 0);
    }

    private static void promise30() {
        FavoursGoOff x = new FavoursGoOff();
        A.due("forget, none", x.forget(), 0);
        owe(x, 0, 1, 5);
        x.told(0, 2, 3);
        x.told(0, 1, 3);
        A.due("forget", x.forget(), 2);
        A.due("forget: count", x.count(3), 0);
        A.due("forget: forged", x.forged(), -1);
        A.due("forget: the next", x.told(0, 1, 3), 0);
    }

    private static void promise31() {
        FavoursGoOff x = new FavoursGoOff();
        x.favour(0, 0, 1, 0, 5, 3);
        x.favour(1, 0, 1, 0, 6, 9);
        x.favour(2, 0, 1, 0, 7, 0);
        x.favour(3, 0, 1, 0, 8, 2);
        x.favour(4, 0, 1, 0, 9, 9);
        A.due("now", x.goesOff(0), 0);
        A.due("by 3", x.goesOff(3), 3 + 6);
        A.due("by 4", x.goesOff(4), 5 + 4 + 8);
        A.due("by 99", x.goesOff(99), 20);
        x.night();
        A.due("from the DAY now", x.goesOff(4), 5 + 3 + 6);
        for (int day : new int[] {0, -1, 100, LOW, HIGH}) {
            A.due("goesOff(" + day + ")", x.goesOff(day), -2);
        }
        A.due("goesOff: BAD", x.status(0), 5);
        x.ask(0);
        A.due("goesOff, GONE", x.goesOff(4), 3 + 6);
    }

    private static void promise32() {
        FavoursGoOff x = new FavoursGoOff();
        kept(x, 7, 0, 1, 1);
        kept(x, 7, 1, 0, 1);
        for (int n = 0; n < 5; n++) {
            owe(x, 0, 1, 1);
            x.need(1, 0, 1, n);
        }
        kept(x, 0, 0, 1, 1);
        kept(x, 0, 1, 0, 1);
        kept(x, 10, 5, 1, 1);
        kept(x, 5, 5, 1, 32);
        kept(x, 5, 3, 1, 2);
        kept(x, 3, 4, 3078, 100000);
        kept(x, 9, 1, 99999, 100000);
        kept(x, 9, 4, 91854, 100000);
        x.favour(0, 0, 1, 0, 1, 9);
        kept(x, 1, 5, 1, 100000);
        x.ask(5);
        x.ask(0);
        kept(x, 2, 4, 16, 10000);
        kept(x, 2, 5, 0, 1);
        int[][] bad = {{-1, 0}, {11, 0}, {0, -1}, {0, 6}, {LOW, HIGH}, {HIGH, LOW}};
        kept(x, 5, 2, 11, 16);
        for (int[] b : bad) {
            A.due("kept, bad", x.kept(b[0], b[1]), -2);
        }
        A.due("kept: BAD", x.status(0), bad.length);
        A.due("kept: THE FRACTION stays", x.part(0), 11);
    }

    private static void kept(FavoursGoOff x, int w, int k, long above, long below) {
        long common = java.math.BigInteger.valueOf(above).gcd(java.math.BigInteger.valueOf(below)).longValue();
        String call = "kept(" + w + ", " + k + ")";
        A.due(call, x.kept(w, k), 1);
        A.due(call + ": part(0)", x.part(0), above / common);
        A.due(call + ": part(1)", x.part(1), below / common);
    }
}
