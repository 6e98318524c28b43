/**
 * "Refused, changing nothing but STATUS, the first of: BAD -2 a number is not as told; NO -3 as told; FULL -4 (where
 * others are told they count as these)": each call, with each of its numbers just outside what is told, on a new
 * object, on a street that was lived in and on one that is as full as can be.
 */
public final class RefusedTest {
    private static final Answers A = new Answers();

    /* What the three pasts leave, for the numbers just outside of it. */
    private final Twins twins;
    private final int people;
    private final int favours;
    private final int needs;
    private final int day;

    private RefusedTest(String name, Twins.Past past, int people, int favours, int needs, int day) {
        this.twins = new Twins(A, name, past);
        this.people = people;
        this.favours = favours;
        this.needs = needs;
        this.day = day;
    }

    public static void main(String[] args) {
        RefusedTest fresh = new RefusedTest("a new object", x -> { }, 4, 0, 0, 0);
        RefusedTest lived = new RefusedTest("a street lived in", RefusedTest::liveIn, 5, 11, 3, 2);
        RefusedTest filled = new RefusedTest("a full street", RefusedTest::fill, 6, 12, 5, 99);
        for (RefusedTest street : new RefusedTest[] {fresh, lived, filled}) {
            street.badAsAStreet();
            street.badAsDeeds();
            street.badAsWhatIsOwed();
            street.badAsWhatThereIs();
            street.onlyAsked();
        }
        fresh.noOnANewObject();
        lived.noForAFavour();
        lived.noForTwoFavours();
        lived.noForWhoOwes();
        lived.fullByTheLastByteAlone();
        filled.noOnTheLastDay();
        filled.fullOfAll();
        A.end("RefusedTest");
    }

    /* Favours: 0 and 1 like ones, 2 UNBORN, 3 HOLY, 4 gone off, 5 asked for, 6 joined to 0, 7 come home, 8 of another
       THING, 9 of another OF, 10 by another. Two nights may be undone, both images are kept, THE TEXT can be read. */
    private static void liveIn(FavoursGoOff x) {
        x.people(5);
        x.strong(0, 14);
        x.set(0, 33);
        x.set(3, 99);
        x.favour(0, 0, 1, 0, 6, 50);
        x.favour(1, 0, 1, 0, 9, 60);
        x.favour(3, 0, 1, 0, 8, 40);
        x.favour(2, 0, 1, 0, 5, 1);
        x.image(1);
        x.favour(0, 0, 1, 0, 7, 1);
        x.need(1, 0, 4, 20);
        x.need(1, 0, 5, 90);
        x.told(0, 1, 2);
        x.night();
        x.favour(0, 0, 1, 3, 10, 90);
        x.favour(4, 0, 1, 0, 3, 80);
        x.favour(0, 1, 2, 0, 4, 80);
        x.favour(0, 0, 1, 1, 4, 80);
        x.favour(0, 0, 2, 0, 4, 80);
        x.join(0, 6);
        x.told(1, 1, 4);
        x.image(0);
        x.need(2, 1, 1, 70);
        x.night();
        x.favour(0, 4, 1, 0, 4, 80);
        x.pass(7, 1);
        x.ask(5);
        x.strong(4, 99);
        x.kept(3, 1);
        x.forged();
        x.undo();
        x.night();
        x.favour(0, 4, 1, 0, 4, 80);
        x.pass(7, 1);
        x.ask(5);
        x.strong(4, 98);
        x.people(9);
        x.ask(5);
        Answers.write(x, "people 3; strong 2 9; favour 1 0 2 3 40 99; need 2 3 40 0;");
    }

    private static void fill(FavoursGoOff x) {
        x.people(6);
        for (int f = 0; f < 12; f++) {
            x.favour(f % 5, f % 5, f % 5 + 1, f % 4, 40 - f, 99 - f % 2);
        }
        for (int n = 0; n < 5; n++) {
            x.need(n + 1, n % 4, 1 + n, 99);
        }
        for (int i = 0; i < 12; i++) {
            x.told(i, i % 5 + 1, i % 5);
        }
        Answers.nights(x, 98);
        x.image(0);
        x.night();
        x.set(1, 1);
        x.strong(3, 40);
        x.image(1);
        x.kept(5, 0);
        StringBuilder all = new StringBuilder("people 6;need 5 3 40 99;");
        while (all.length() < 249) {
            all.append(' ');
        }
        Answers.write(x, all.append('x').toString());
    }

    private static int outside(int low, int high, int i) {
        return Answers.outside(low, high)[i];
    }

    private void badAsAStreet() {
        for (int i = 0; i < 4; i++) {
            int n = outside(2, 6, i);
            int p = outside(0, people - 1, i);
            int v = outside(0, 99, i);
            int f = outside(0, favours - 1, i);
            int bytes = outside(1, 8, i);
            twins.bad("people(" + n + ")", x -> x.people(n), -2);
            twins.bad("strong(" + p + ", 5)", x -> x.strong(p, 5), -2);
            twins.bad("strong(0, " + v + ")", x -> x.strong(0, v), -2);
            twins.bad("type(32, " + bytes + ")", x -> x.type(32, bytes), -2);
            twins.bad("value(" + f + ", 0)", x -> x.value(f, 0), -2);
            twins.bad("value(0, " + v + ")", x -> x.value(0, v), -2);
            twins.bad("of(" + f + ")", x -> x.of(f), -2);
        }
        badAsAFavour();
        badAsANeed();
    }

    private void badAsAFavour() {
        for (int i = 0; i < 4; i++) {
            int kind = outside(0, 4, i);
            int p = outside(0, people - 1, i);
            int thing = outside(0, 3, i);
            int worth = outside(1, 40, i);
            int till = outside(0, 99, i);
            twins.bad("favour, kind " + kind, x -> x.favour(kind, 0, 1, 0, 1, 99), -2);
            twins.bad("favour, by " + p, x -> x.favour(0, p, 1, 0, 1, 99), -2);
            twins.bad("favour, of " + p, x -> x.favour(0, 0, p, 0, 1, 99), -2);
            twins.bad("favour, by and of " + p, x -> x.favour(0, p, p, 0, 1, 99), -2);
            twins.bad("favour, thing " + thing, x -> x.favour(0, 0, 1, thing, 1, 99), -2);
            twins.bad("favour, worth " + worth, x -> x.favour(0, 0, 1, 0, worth, 99), -2);
            twins.bad("favour, till " + till, x -> x.favour(0, 0, 1, 0, 1, till), -2);
        }
        for (int p = 0; p < people; p++) {
            int alike = p;
            twins.bad("favour, alike: " + p, x -> x.favour(0, alike, alike, 0, 1, 99), -2);
        }
    }

    private void badAsANeed() {
        for (int i = 0; i < 4; i++) {
            int p = outside(0, people - 1, i);
            int thing = outside(0, 3, i);
            int size = outside(1, 40, i);
            int when = outside(day, 99, i);
            twins.bad("need, of " + p, x -> x.need(p, 0, 1, 99), -2);
            twins.bad("need, thing " + thing, x -> x.need(0, thing, 1, 99), -2);
            twins.bad("need, size " + size, x -> x.need(0, 0, size, 99), -2);
            twins.bad("need, day " + when, x -> x.need(0, 0, 1, when), -2);
        }
    }

    private void badAsDeeds() {
        for (int i = 0; i < 4; i++) {
            int f = outside(0, favours - 1, i);
            int p = outside(0, people - 1, i);
            twins.bad("pass(" + f + ", 0)", x -> x.pass(f, 0), -10);
            for (int g = 0; g < favours; g++) {
                int had = g;
                twins.bad("pass(" + g + ", " + p + ")", x -> x.pass(had, p), -10);
            }
            twins.bad("join(" + f + ", 0)", x -> x.join(f, 0), -2);
            twins.bad("join(0, " + f + ")", x -> x.join(0, f), -2);
            twins.bad("join(" + f + ", " + f + ")", x -> x.join(f, f), -2);
            twins.bad("ask(" + f + ")", x -> x.ask(f), -2);
        }
        for (int g = 0; g < favours; g++) {
            int f = g;
            twins.bad("join(" + f + ", " + f + ")", x -> x.join(f, f), -2);
        }
    }

    private void badAsWhatIsOwed() {
        for (int i = 0; i < 4; i++) {
            int p = outside(0, people - 1, i);
            int what = outside(0, 1, i);
            int need = outside(0, needs - 1, i);
            int when = outside(0, 99, i);
            int later = outside(day, 99, i);
            twins.bad("owes(" + p + ", 0)", x -> x.owes(p, 0), -1000);
            twins.bad("owes(0, " + p + ")", x -> x.owes(0, p), -1000);
            twins.bad("owes(" + p + ", " + p + ")", x -> x.owes(p, p), -1000);
            twins.bad("net(" + p + ")", x -> x.net(p), -10000);
            twins.bad("met(" + what + ")", x -> x.met(what), -2);
            twins.bad("plan(" + need + ")", x -> x.plan(need), -2);
            twins.bad("fire(" + when + ", 0)", x -> x.fire(when, 0), -2);
            twins.bad("fire(99, " + what + ")", x -> x.fire(99, what), -2);
            twins.bad("goesOff(" + later + ")", x -> x.goesOff(later), -2);
        }
        for (int p = 0; p < people; p++) {
            int alike = p;
            twins.bad("owes(" + p + ", " + p + ")", x -> x.owes(alike, alike), -1000);
        }
        for (int i : new int[] {-2, -3, Answers.LOW}) {
            twins.bad("ring(" + i + ")", x -> x.ring(i), -10);
        }
        badAsRatesAndOdds();
        badAsAPassTold();
    }

    private void badAsRatesAndOdds() {
        for (int i = 0; i < 4; i++) {
            int thing = outside(0, 3, i);
            int round = outside(0, 99, i);
            int rate = outside(1, 99, i);
            int w = outside(0, 10, i);
            int k = outside(0, 5, i);
            twins.bad("rate(" + thing + ", 0)", x -> x.rate(thing, 0), -2);
            twins.bad("rate(0, " + round + ")", x -> x.rate(0, round), -2);
            twins.bad("set(" + thing + ", 5)", x -> x.set(thing, 5), -2);
            twins.bad("set(0, " + rate + ")", x -> x.set(0, rate), -2);
            twins.bad("kept(" + w + ", 0)", x -> x.kept(w, 0), -2);
            twins.bad("kept(5, " + k + ")", x -> x.kept(5, k), -2);
        }
    }

    private void badAsAPassTold() {
        for (int i = 0; i < 4; i++) {
            int f = outside(0, favours - 1, i);
            int p = outside(0, people - 1, i);
            twins.bad("told(" + f + ", 0, 1)", x -> x.told(f, 0, 1), -2);
            twins.bad("told(0, " + p + ", 1)", x -> x.told(0, p, 1), -2);
            twins.bad("told(0, 0, " + p + ")", x -> x.told(0, 0, p), -2);
        }
        for (int p = 0; p < people; p++) {
            int same = p;
            twins.bad("told(0, " + p + ", " + p + ")", x -> x.told(0, same, same), -2);
        }
    }

    private void badAsWhatThereIs() {
        for (int i = 0; i < 4; i++) {
            int two = outside(0, 1, i);
            int three = outside(0, 2, i);
            int seven = outside(0, 6, i);
            twins.bad("part(" + two + ")", x -> x.part(two), -2);
            twins.bad("image(" + two + ")", x -> x.image(two), -2);
            twins.bad("from(" + two + ")", x -> x.from(two), -2);
            twins.bad("status(" + three + ")", x -> x.status(three), -1);
            twins.bad("count(" + seven + ")", x -> x.count(seven), -2);
        }
    }

    /** "all stays", "-5: not so many", NONE: answers that refuse nothing; and what only asks. */
    private void onlyAsked() {
        twins.asked("ring(6)", x -> x.ring(6), -5);
        twins.asked("ring(HIGH)", x -> x.ring(Answers.HIGH), -5);
        twins.asked("count(4)", x -> x.count(4), day);
        twins.asked("goesOff(the DAY now)", x -> x.goesOff(day), 0);
        twins.asked("ring(-1)", x -> x.ring(-1));
        twins.asked("owes(0, 1)", x -> x.owes(0, 1));
        twins.asked("net(0)", x -> x.net(0));
        twins.asked("fewest()", x -> x.fewest());
        twins.asked("rate(3, 99)", x -> x.rate(3, 99));
        twins.asked("settles()", x -> x.settles());
        twins.asked("forged()", x -> x.forged());
        twins.asked("goesOff(99)", x -> x.goesOff(99));
        twins.asked("digest()", x -> x.digest());
        for (int i = 0; i < 2; i++) {
            int what = i;
            twins.asked("met(" + what + ")", x -> x.met(what));
            twins.asked("fire(99, " + what + ")", x -> x.fire(99, what));
            twins.asked("part(" + what + ")", x -> x.part(what));
            twins.asked("status(" + what + ")", x -> x.status(what));
        }
        for (int i = 0; i < needs; i++) {
            int need = i;
            twins.asked("plan(" + need + ")", x -> x.plan(need));
        }
        for (int i = 0; i < favours; i++) {
            int f = i;
            twins.asked("value(" + f + ", 99)", x -> x.value(f, 99));
            twins.asked("of(" + f + ")", x -> x.of(f));
        }
    }

    private void noOnANewObject() {
        twins.no("undo()", x -> x.undo(), -3);
        twins.no("cancel()", x -> x.cancel(), -3);
        twins.no("from(0)", x -> x.from(0), -3);
        twins.no("from(1)", x -> x.from(1), -3);
        twins.asked("read() of an empty one", x -> x.read(), -10);
        twins.asked("met(0)", x -> x.met(0), 0);
        twins.asked("forged()", x -> x.forged(), -1);
    }

    private void noForAFavour() {
        int[] notPassed = {2, 3, 4, 5, 6, 7};
        for (int f : notPassed) {
            for (int p = 0; p < people; p++) {
                int to = p;
                boolean has = f < 5 && p == 1;
                if (has) {
                    twins.bad("pass(" + f + ", " + p + "), who has it", x -> x.pass(f, to), -10);
                } else {
                    twins.no("pass(" + f + ", " + p + ")", x -> x.pass(f, to), -20);
                }
            }
        }
        for (int f : new int[] {0, 1, 8}) {
            twins.bad("pass(" + f + ", 1), who has it", x -> x.pass(f, 1), -10);
        }
        for (int f : new int[] {2, 4, 5, 6, 7}) {
            twins.no("ask(" + f + ")", x -> x.ask(f), -3);
        }
    }

    private void noForTwoFavours() {
        for (int g : new int[] {2, 4, 5, 6, 7, 8, 9, 10}) {
            twins.no("join(0, " + g + ")", x -> x.join(0, g), -3);
            twins.no("join(" + g + ", 0)", x -> x.join(g, 0), -3);
        }
        twins.no("join(2, 4), both of VALUE 0", x -> x.join(2, 4), -3);
        twins.no("join(5, 6), both GONE", x -> x.join(5, 6), -3);
    }

    /** Who owes 0 did 10 of his 14 this DAY: 9 less 2 and all that is worth more are too much. */
    private void noForWhoOwes() {
        for (int f : new int[] {0, 1, 3}) {
            twins.no("ask(" + f + "), BY can do no more", x -> x.ask(f), -3);
        }
        twins.no("ask(9), BY can do no more, and so not the last of three",
            x -> x.strong(0, 13) == 14 && x.ask(9) == -3 && x.strong(0, 14) == 13 ? -3 : 0, -3);
    }

    private void noOnTheLastDay() {
        twins.no("night()", x -> x.night(), -3);
        twins.no("cancel()", x -> x.cancel(), -3);
        twins.asked("read() with a fault at its last byte", x -> x.read(), -10 - 249);
    }

    private void fullByTheLastByteAlone() {
        Twins.Past past = x -> {
            liveIn(x);
            Answers.append(x, " ".repeat(249 - x.count(6)));
        };
        Twins nearly = new Twins(A, "a text of 249", past);
        for (int n = 2; n <= 8; n++) {
            int bytes = n;
            nearly.full("type(-1, " + n + ")", x -> x.type(-1, bytes));
        }
    }

    private void fullOfAll() {
        twins.full("favour", x -> x.favour(0, 0, 1, 0, 1, 99));
        twins.full("need", x -> x.need(0, 0, 1, 99));
        twins.full("told", x -> x.told(0, 1, 2));
        for (int n = 1; n <= 8; n++) {
            int bytes = n;
            twins.full("type(0, " + n + ")", x -> x.type(0, bytes));
        }
    }
}
