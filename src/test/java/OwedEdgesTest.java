/** Promises 17 to 21 and 24 to 31 and their Terms, sentence by sentence. */
public final class OwedEdgesTest {
    private static final Answers A = new Answers();
    private static final int PLAIN = 0, FADING = 1, HOLY = 2, UNBORN = 3, KEEN = 4;

    public static void main(String[] args) {
        owesTogether();
        owesNow();
        owesBad();
        ringNone();
        ringOfTwoToSix();
        ringTheFewest();
        ringTheFirstByNumbers();
        ringFromTheLeastOn();
        ringOfValueOneAndNone();
        ringNotSoMany();
        cancelTheLeastValue();
        cancelTheLeastNumber();
        cancelOneOfEach();
        cancelNoRing();
        netOfNoneAndAll();
        netBad();
        fewestOfNoneToFive();
        fewestOfGroups();
        fewestNow();
        fireMoreThanStrength();
        fireWhatOthersDoForHim();
        fireRoundByRound();
        fireNoneAndAll();
        fireOnADay();
        fireBad();
        ratesOneToNinetyNine();
        rateBehindRounds();
        rateOneMoreOneLess();
        rateOfValueAboveZeroNow();
        rateHeldThere();
        settlesFromZeroOn();
        settlesAtTheLast();
        passesToldAreTwelve();
        passesToldBad();
        forgedNone();
        forgedTheFirst();
        forgedAsIfAllCouldBePassed();
        forgedComeHome();
        forgedGoneOnes();
        forgetFromNoneToTwelve();
        goesOffByNow();
        goesOffWorthLessThen();
        goesOffBad();
        A.end("OwedEdgesTest");
    }

    private static FavoursGoOff street(int people) {
        FavoursGoOff x = new FavoursGoOff();
        x.people(people);
        return x;
    }

    private static void owe(FavoursGoOff x, int by, int of, int worth) {
        x.favour(PLAIN, by, of, 0, worth, 99);
    }

    private static void owesTogether() {
        A.sentence("OWES of two: the VALUES now of FAVOURS by one of the other, together");
        FavoursGoOff x = street(6);
        A.due("none", x.owes(0, 5), 0);
        for (int f = 0; f < 11; f++) {
            x.favour(PLAIN, 5, 0, f % 4, 40, 99);
        }
        x.favour(PLAIN, 5, 1, 0, 40, 99);
        A.due("eleven", x.owes(5, 0), 440);
        A.due("another has one", x.owes(5, 1), 40);
        A.due("nothing the other way", x.owes(0, 5), 0);
        x.pass(11, 0);
        A.due("twelve", x.owes(5, 0), 480);
        A.due("another none", x.owes(5, 1), 0);
        x.ask(0);
        A.due("one that can not be asked for stays", x.owes(5, 0), 480);
    }

    private static void owesNow() {
        A.sentence("OWES: the VALUES now");
        FavoursGoOff x = new FavoursGoOff();
        x.favour(PLAIN, 0, 1, 0, 1, 1);
        x.favour(UNBORN, 0, 1, 0, 10, 2);
        x.favour(FADING, 0, 1, 0, 9, 99);
        x.favour(HOLY, 0, 1, 0, 20, 0);
        x.favour(KEEN, 0, 1, 0, 4, 99);
        int[] due = {34, 31, 37, 36, 35};
        for (int day = 0; day < due.length; day++) {
            A.due("on DAY " + day, x.owes(0, 1), due[day]);
            x.night();
        }
        Answers.nights(x, 5);
        A.due("on DAY 10", x.owes(0, 1), 31);
    }

    private static void owesBad() {
        A.sentence("owes: BAD: alike, too: -1000");
        FavoursGoOff x = street(2);
        owe(x, 0, 1, 5);
        A.due("owes(0, 0)", x.owes(0, 0), -1000);
        A.due("owes(1, 1)", x.owes(1, 1), -1000);
        A.due("owes(0, 2)", x.owes(0, 2), -1000);
        A.due("owes(2, 0)", x.owes(2, 0), -1000);
        A.due("owes(-1, 0)", x.owes(-1, 0), -1000);
        A.due("owes(0, -1)", x.owes(0, -1), -1000);
        A.due("owes(0, 1)", x.owes(0, 1), 5);
        A.due("BAD", x.status(0), 6);
    }

    private static void ring(FavoursGoOff x, int... members) {
        A.due("ring(-1)", x.ring(-1), members.length);
        for (int i = 0; i < members.length; i++) {
            A.due("ring(" + i + ")", x.ring(i), members[i]);
        }
        A.due("ring(" + members.length + ")", x.ring(members.length), -5);
    }

    private static void ringNone() {
        A.sentence("RING: .. none; ring: 0: there is none");
        FavoursGoOff x = street(6);
        ring(x);
        for (int p = 0; p < 5; p++) {
            owe(x, p, p + 1, 40);
        }
        ring(x);
        owe(x, 0, 5, 40);
        ring(x);
    }

    private static void ringOfTwoToSix() {
        A.sentence("RING: PEOPLE, each of whom OWES the next (the last the first), unlike ones");
        for (int n = 2; n <= 6; n++) {
            FavoursGoOff x = street(6);
            int[] members = new int[n];
            for (int i = 0; i < n; i++) {
                members[i] = 6 - n + i;
                owe(x, 6 - n + i, i < n - 1 ? 6 - n + i + 1 : 6 - n, 1);
            }
            ring(x, members);
            A.due("cancel", x.cancel(), n);
            ring(x);
        }
    }

    private static void ringTheFewest() {
        A.sentence("RING: the fewest");
        FavoursGoOff x = street(6);
        for (int p = 0; p < 6; p++) {
            owe(x, p, (p + 1) % 6, 1);
        }
        ring(x, 0, 1, 2, 3, 4, 5);
        owe(x, 4, 0, 1);
        ring(x, 0, 1, 2, 3, 4);
        owe(x, 5, 2, 1);
        ring(x, 2, 3, 4, 5);
        owe(x, 5, 3, 1);
        ring(x, 3, 4, 5);
        owe(x, 5, 4, 1);
        ring(x, 4, 5);
    }

    private static void ringTheFirstByNumbers() {
        A.sentence("RING: of like ones the first by numbers");
        FavoursGoOff x = street(6);
        owe(x, 3, 5, 1);
        owe(x, 5, 3, 1);
        ring(x, 3, 5);
        owe(x, 3, 4, 1);
        owe(x, 4, 3, 1);
        ring(x, 3, 4);
        owe(x, 2, 5, 1);
        owe(x, 5, 2, 1);
        ring(x, 2, 5);
        x.people(6);
        owe(x, 0, 2, 1);
        owe(x, 2, 5, 1);
        owe(x, 5, 0, 1);
        owe(x, 2, 4, 1);
        owe(x, 4, 0, 1);
        ring(x, 0, 2, 4);
        owe(x, 0, 1, 1);
        owe(x, 1, 5, 1);
        ring(x, 0, 1, 5);
        x.people(5);
        owe(x, 0, 3, 1);
        owe(x, 3, 1, 1);
        owe(x, 1, 0, 1);
        ring(x, 0, 3, 1);
        owe(x, 1, 2, 1);
        owe(x, 2, 4, 1);
        owe(x, 4, 1, 1);
        ring(x, 0, 3, 1);
    }

    private static void ringFromTheLeastOn() {
        A.sentence("RING: from the least on");
        FavoursGoOff x = street(6);
        owe(x, 5, 1, 1);
        owe(x, 1, 4, 1);
        owe(x, 4, 2, 1);
        owe(x, 2, 5, 1);
        ring(x, 1, 4, 2, 5);
    }

    private static void ringOfValueOneAndNone() {
        A.sentence("RING: each of whom OWES the next (a VALUE above 0 now)");
        FavoursGoOff x = street(2);
        x.favour(FADING, 0, 1, 0, 2, 99);
        x.favour(UNBORN, 1, 0, 0, 1, 1);
        ring(x);
        x.night();
        ring(x, 0, 1);
        x.night();
        ring(x);
    }

    private static void ringNotSoMany() {
        A.sentence("ring: the i-th. -5: not so many. BAD: -10: i below -1, too");
        FavoursGoOff x = street(2);
        owe(x, 0, 1, 1);
        owe(x, 1, 0, 1);
        ring(x, 0, 1);
        A.due("ring(3)", x.ring(3), -5);
        A.due("ring(HIGH)", x.ring(Answers.HIGH), -5);
        A.due("ring(-2)", x.ring(-2), -10);
        A.due("ring(LOW)", x.ring(Answers.LOW), -10);
        A.due("BAD", x.status(0), 2);
        A.due("NO", x.status(1), 0);
    }

    private static void cancelTheLeastValue() {
        A.sentence("CANCEL: of each in RING, to the next, the FAVOUR of the least VALUE (above 0)");
        FavoursGoOff x = street(3);
        x.favour(UNBORN, 0, 1, 0, 1, 99);
        x.favour(PLAIN, 0, 1, 0, 1, 1);
        owe(x, 0, 1, 9);
        x.favour(KEEN, 0, 1, 0, 12, 99);
        owe(x, 0, 2, 1);
        x.favour(HOLY, 1, 0, 0, 5, 0);
        owe(x, 1, 0, 5);
        owe(x, 2, 1, 1);
        Answers.nights(x, 2);
        ring(x, 0, 1);
        A.due("cancel", x.cancel(), 2);
        int[] of = {1, 1, 1, -1, 2, -1, 0, 1};
        for (int f = 0; f < of.length; f++) {
            A.due("of(" + f + ")", x.of(f), of[f]);
        }
        A.due("the next", x.cancel(), 2);
        A.due("9 is the least above 0", x.of(2) * 10 + x.of(0), -9);
        ring(x);
    }

    private static void cancelTheLeastNumber() {
        A.sentence("CANCEL: of like ones the least");
        FavoursGoOff x = street(2);
        owe(x, 1, 0, 9);
        owe(x, 0, 1, 4);
        owe(x, 1, 0, 9);
        owe(x, 0, 1, 3);
        owe(x, 0, 1, 3);
        A.due("cancel", x.cancel(), 2);
        int[] of = {-1, 1, 0, -1, 1};
        for (int f = 0; f < of.length; f++) {
            A.due("of(" + f + ")", x.of(f), of[f]);
        }
        A.due("the next", x.cancel(), 2);
        A.due("of(2)", x.of(2), -1);
        A.due("of(4)", x.of(4), -1);
        A.due("of(1)", x.of(1), 1);
    }

    private static void cancelOneOfEach() {
        A.sentence("cancel: how many FAVOURS are GONE by it");
        FavoursGoOff x = street(6);
        for (int f = 0; f < 12; f++) {
            owe(x, f % 6, (f + 1) % 6, 1 + f % 2);
        }
        A.due("six of twelve", x.cancel(), 6);
        for (int f = 0; f < 12; f++) {
            A.due("of(" + f + ")", x.of(f), f < 6 ? -1 : (f + 1) % 6);
        }
        A.due("and six more", x.cancel(), 6);
        A.due("count(1)", x.count(1), 12);
        A.due("no more", x.cancel(), -3);
    }

    private static void cancelNoRing() {
        A.sentence("cancel: NO: there is no RING");
        FavoursGoOff x = street(2);
        A.due("none", x.cancel(), -3);
        owe(x, 0, 1, 1);
        A.due("one way", x.cancel(), -3);
        x.favour(PLAIN, 1, 0, 0, 1, 0);
        x.night();
        A.due("one that went off", x.cancel(), -3);
        A.due("nothing is GONE", x.of(0) * 10 + x.of(1), 10);
        A.due("NO", x.status(1), 3);
    }

    private static void netOfNoneAndAll() {
        A.sentence("NET of one: what others OWE him in all less what he OWES");
        FavoursGoOff x = street(6);
        A.due("net(5) of none", x.net(5), 0);
        for (int f = 0; f < 12; f++) {
            x.favour(HOLY, 0, 5, 0, 40, 0);
        }
        Answers.nights(x, 99);
        A.due("the greatest", x.net(5), 588);
        A.due("the least", x.net(0), -588);
        A.due("neither", x.net(1), 0);
        x.people(3);
        owe(x, 0, 1, 7);
        owe(x, 1, 0, 7);
        owe(x, 2, 1, 3);
        A.due("even", x.net(0), 0);
        A.due("3", x.net(1), 3);
        A.due("-3", x.net(2), -3);
    }

    private static void netBad() {
        A.sentence("net: BAD: -10000");
        FavoursGoOff x = street(3);
        A.due("net(2)", x.net(2), 0);
        A.due("net(3)", x.net(3), -10000);
        A.due("net(-1)", x.net(-1), -10000);
        A.due("BAD", x.status(0), 2);
    }

    private static void fewestOfNoneToFive() {
        A.sentence("FEWEST payments by which all NETS are 0");
        FavoursGoOff x = street(6);
        A.due("none", x.fewest(), 0);
        int[] worths = {1, 2, 4, 8, 16};
        for (int p = 0; p < 5; p++) {
            owe(x, p, 5, worths[p]);
            A.due("of " + (p + 1), x.fewest(), p + 1);
        }
        x.people(2);
        owe(x, 0, 1, 40);
        A.due("of two", x.fewest(), 1);
        owe(x, 1, 0, 39);
        A.due("of two, 1 left", x.fewest(), 1);
        owe(x, 1, 0, 1);
        A.due("of two, even", x.fewest(), 0);
    }

    private static void fewestOfGroups() {
        A.sentence("FEWEST: those whose NETS cancel among themselves pay among themselves");
        FavoursGoOff x = street(6);
        owe(x, 0, 3, 5);
        owe(x, 1, 4, 5);
        owe(x, 2, 5, 5);
        A.due("three pairs of like NETS", x.fewest(), 3);
        x.people(6);
        owe(x, 0, 3, 5);
        owe(x, 1, 4, 7);
        owe(x, 2, 5, 9);
        owe(x, 0, 4, 2);
        owe(x, 1, 3, 2);
        A.due("pairs -7 7, -9 9 and -9 9 in another order", x.fewest(), 3);
        x.people(6);
        owe(x, 0, 2, 3);
        owe(x, 1, 2, 4);
        owe(x, 3, 5, 10);
        owe(x, 4, 5, 20);
        A.due("two threes", x.fewest(), 4);
        x.people(6);
        owe(x, 0, 1, 10);
        owe(x, 2, 3, 4);
        owe(x, 2, 4, 5);
        A.due("a pair, a three and one who is even", x.fewest(), 3);
        owe(x, 4, 5, 5);
        A.due("-10 10 -9 4 0 5", x.fewest(), 3);
    }

    private static void fewestNow() {
        A.sentence("FEWEST (NETS now)");
        FavoursGoOff x = street(4);
        x.favour(PLAIN, 0, 1, 0, 9, 0);
        x.favour(UNBORN, 2, 3, 0, 9, 2);
        A.due("on DAY 0", x.fewest(), 1);
        x.night();
        A.due("on DAY 1", x.fewest(), 0);
        x.night();
        A.due("on DAY 2", x.fewest(), 1);
        x.pass(1, 2);
        A.due("come home", x.fewest(), 0);
    }

    private static void fire(FavoursGoOff x, int day, int who, int rounds) {
        A.due("fire(" + day + ", 0)", x.fire(day, 0), who);
        A.due("fire(" + day + ", 1)", x.fire(day, 1), rounds);
    }

    private static void fireMoreThanStrength() {
        A.sentence("FIRE: FALLS, if what he is to do is more than his STRENGTH");
        FavoursGoOff x = street(2);
        owe(x, 0, 1, 20);
        fire(x, 0, 0, 0);
        x.strong(0, 19);
        fire(x, 0, 1, 1);
        x.strong(0, 21);
        owe(x, 0, 1, 1);
        fire(x, 0, 0, 0);
        x.strong(0, 0);
        x.strong(1, 0);
        fire(x, 0, 1, 1);
        x.people(2);
        x.strong(0, 0);
        fire(x, 0, 0, 0);
        owe(x, 0, 1, 1);
        fire(x, 0, 1, 1);
        owe(x, 1, 0, 21);
        fire(x, 0, 0, 0);
    }

    private static void fireWhatOthersDoForHim() {
        A.sentence("FIRE: .. and what those who did not FALL do for him");
        FavoursGoOff x = street(3);
        x.strong(0, 5);
        owe(x, 0, 1, 20);
        fire(x, 0, 1, 1);
        owe(x, 2, 0, 14);
        fire(x, 0, 1, 1);
        owe(x, 2, 0, 1);
        fire(x, 0, 0, 0);
        x.strong(2, 14);
        fire(x, 0, 5, 2);
        x.strong(2, 15);
        fire(x, 0, 0, 0);
        x.pass(2, 1);
        fire(x, 0, 1, 1);
    }

    private static void fireRoundByRound() {
        A.sentence("FIRE: ROUND by ROUND each who does not yet FALL, by how it is ahead of the ROUND");
        FavoursGoOff x = street(6);
        for (int p = 0; p < 6; p++) {
            x.strong(p, 0);
        }
        for (int p = 1; p < 6; p++) {
            owe(x, p, p - 1, 5);
        }
        fire(x, 0, 62, 5);
        x.strong(4, 1);
        fire(x, 0, 62, 5);
        x.strong(4, 5);
        fire(x, 0, 32, 1);
        x.strong(5, 5);
        fire(x, 0, 0, 0);
        x.people(3);
        x.strong(0, 0);
        x.strong(1, 1);
        owe(x, 0, 1, 5);
        owe(x, 1, 2, 6);
        fire(x, 0, 3, 2);
        x.people(3);
        x.strong(2, 0);
        x.strong(1, 1);
        owe(x, 2, 1, 5);
        owe(x, 1, 0, 6);
        fire(x, 0, 6, 2);
    }

    private static void fireNoneAndAll() {
        A.sentence("FIRE: Told: who FALLS in the end, how many ROUNDS had somebody who fell");
        FavoursGoOff x = street(6);
        fire(x, 0, 0, 0);
        for (int p = 0; p < 6; p++) {
            x.strong(p, 0);
            owe(x, p, (p + 1) % 6, 5);
        }
        fire(x, 0, 0, 0);
        for (int p = 0; p < 6; p++) {
            owe(x, p, (p + 2) % 6, p == 0 ? 6 : 5);
        }
        fire(x, 0, 63, 4);
        x.people(2);
        x.strong(0, 0);
        x.strong(1, 0);
        owe(x, 0, 1, 1);
        owe(x, 1, 0, 2);
        fire(x, 0, 3, 2);
        x.people(6);
        for (int p = 0; p < 6; p++) {
            x.strong(p, 0);
            owe(x, p, (p + 1) % 6, p == 3 ? 4 : 5);
        }
        fire(x, 0, 63, 6);
    }

    private static void fireOnADay() {
        A.sentence("FIRE on a DAY: VALUES of that DAY");
        FavoursGoOff x = street(2);
        x.strong(0, 5);
        x.favour(FADING, 0, 1, 0, 6, 5);
        x.favour(UNBORN, 0, 1, 0, 6, 99);
        x.favour(HOLY, 1, 0, 0, 1, 89);
        fire(x, 0, 0, 0);
        Answers.nights(x, 3);
        fire(x, 0, 0, 0);
        x.strong(0, 4);
        fire(x, 0, 1, 1);
        fire(x, 1, 0, 0);
        fire(x, 98, 0, 0);
        fire(x, 99, 0, 0);
        x.strong(0, 3);
        fire(x, 98, 0, 0);
        fire(x, 99, 1, 1);
        x.ask(0);
        fire(x, 0, 0, 0);
    }

    private static void fireBad() {
        A.sentence("fire: BAD");
        FavoursGoOff x = street(2);
        A.due("fire(-1, 0)", x.fire(-1, 0), -2);
        A.due("fire(100, 1)", x.fire(100, 1), -2);
        A.due("fire(0, -1)", x.fire(0, -1), -2);
        A.due("fire(99, 2)", x.fire(99, 2), -2);
        x.night();
        fire(x, 0, 0, 0);
        A.due("BAD", x.status(0), 4);
    }

    private static void ratesOneToNinetyNine() {
        A.sentence("RATES of THINGS (1 .. 99; 10 at first); set: RATE of a THING: what it was. BAD");
        FavoursGoOff x = new FavoursGoOff();
        A.due("set(0, 0)", x.set(0, 0), -2);
        A.due("set(0, 1)", x.set(0, 1), 10);
        A.due("set(0, 99)", x.set(0, 99), 1);
        A.due("set(0, 100)", x.set(0, 100), -2);
        A.due("set(3, 2)", x.set(3, 2), 10);
        A.due("set(4, 2)", x.set(4, 2), -2);
        A.due("set(-1, 2)", x.set(-1, 2), -2);
        A.due("rates", x.rate(0, 0) * 1000 + x.rate(1, 0) * 10 + x.rate(3, 0), 99102);
        A.due("BAD", x.status(0), 4);
    }

    private static void rateBehindRounds() {
        A.sentence("rate: RATE of a THING behind n (0 .. 99) ROUNDS. BAD");
        FavoursGoOff x = new FavoursGoOff();
        x.set(3, 1);
        x.need(0, 3, 1, 0);
        A.due("rate(3, -1)", x.rate(3, -1), -2);
        A.due("rate(3, 0)", x.rate(3, 0), 1);
        A.due("rate(3, 1)", x.rate(3, 1), 2);
        A.due("rate(3, 97)", x.rate(3, 97), 98);
        A.due("rate(3, 98)", x.rate(3, 98), 99);
        A.due("rate(3, 99)", x.rate(3, 99), 99);
        A.due("rate(3, 100)", x.rate(3, 100), -2);
        A.due("rate(4, 0)", x.rate(4, 0), -2);
        A.due("rate(-1, 0)", x.rate(-1, 0), -2);
        A.due("it stays", x.set(3, 1), 1);
        A.due("BAD", x.status(0), 4);
    }

    private static void rateOneMoreOneLess() {
        A.sentence("RATES: one more for each NEED of it, one less for each FAVOUR of it");
        FavoursGoOff x = new FavoursGoOff();
        x.set(2, 50);
        for (int n = 0; n < 5; n++) {
            x.need(n % 4, 2, 40, 99);
        }
        A.due("five NEEDS", x.rate(2, 2), 60);
        for (int f = 0; f < 5; f++) {
            x.favour(PLAIN, 0, 1, 2, 1, 99);
        }
        A.due("and five FAVOURS", x.rate(2, 99), 50);
        for (int f = 0; f < 7; f++) {
            x.favour(PLAIN, 2, 3, 2, 40, 99);
        }
        A.due("and twelve", x.rate(2, 2), 36);
        A.due("another THING", x.rate(1, 99) + x.rate(3, 99), 20);
        x.contented();
        A.due("no NEEDS", x.rate(2, 1), 38);
    }

    private static void rateOfValueAboveZeroNow() {
        A.sentence("RATES: each FAVOUR of it with VALUE above 0 now");
        FavoursGoOff x = new FavoursGoOff();
        x.favour(PLAIN, 0, 1, 0, 1, 1);
        x.favour(UNBORN, 0, 1, 0, 1, 2);
        x.favour(FADING, 0, 1, 0, 2, 99);
        A.due("on DAY 0", x.rate(0, 1), 8);
        x.night();
        A.due("on DAY 1, of VALUE 1 each", x.rate(0, 1), 8);
        x.night();
        A.due("on DAY 2", x.rate(0, 1), 9);
        x.ask(1);
        A.due("GONE", x.rate(0, 1), 10);
        A.due("SETTLES", x.settles(), 0);
    }

    private static void rateHeldThere() {
        A.sentence("RATES (1 .. 99: held there)");
        FavoursGoOff x = new FavoursGoOff();
        x.set(0, 97);
        x.set(1, 3);
        for (int n = 0; n < 5; n++) {
            x.need(0, 0, 1, 0);
            x.favour(PLAIN, 0, 1, 1, 1, 99);
        }
        A.due("97 and 5", x.rate(0, 1), 99);
        A.due("3 less 5", x.rate(1, 1), 1);
        A.due("held up", x.rate(0, 99), 99);
        A.due("held down", x.rate(1, 99), 1);
        A.due("SETTLES", x.settles(), 1);
        x.set(0, 94);
        x.set(1, 6);
        A.due("94 and 5", x.rate(0, 1), 99);
        A.due("6 less 5", x.rate(1, 1), 1);
        A.due("SETTLES", x.settles(), 1);
        x.set(0, 93);
        A.due("93 and 5", x.rate(0, 1), 98);
        A.due("and 5 more", x.rate(0, 2), 99);
        A.due("SETTLES", x.settles(), 2);
    }

    private static void settlesFromZeroOn() {
        A.sentence("SETTLES: the first ROUND (0 .. 99) behind which none changes any more");
        FavoursGoOff x = new FavoursGoOff();
        A.due("at first", x.settles(), 0);
        x.need(0, 3, 1, 0);
        A.due("10 to 99", x.settles(), 89);
        x.set(3, 99);
        A.due("99 already", x.settles(), 0);
        x.set(3, 98);
        A.due("98", x.settles(), 1);
        x.favour(PLAIN, 0, 1, 0, 1, 99);
        A.due("10 to 1", x.settles(), 9);
        x.set(0, 1);
        A.due("1 already", x.settles(), 1);
        x.set(0, 2);
        A.due("2", x.settles(), 1);
        x.set(0, 3);
        A.due("3", x.settles(), 2);
        x.favour(PLAIN, 0, 1, 3, 1, 99);
        A.due("the NEED and the FAVOUR are even", x.rate(3, 99) * 10 + x.settles(), 982);
    }

    private static void settlesAtTheLast() {
        A.sentence("SETTLES: .. the last of them to change");
        FavoursGoOff x = new FavoursGoOff();
        x.set(0, 1);
        x.need(0, 0, 1, 0);
        A.due("1 to 99", x.settles(), 98);
        x.set(0, 99);
        x.favour(PLAIN, 0, 1, 1, 1, 99);
        x.set(1, 99);
        A.due("99 to 1", x.settles(), 98);
        x.need(0, 2, 1, 0);
        x.need(0, 2, 1, 0);
        A.due("a quicker one does not count", x.settles(), 98);
        x.night();
        x.undo();
        A.due("RATES are as they were", x.rate(1, 0), 99);
    }

    private static void passesToldAreTwelve() {
        A.sentence("PASSES told, 0 .. 11, as they come; told: its number; FULL: 12");
        FavoursGoOff x = street(6);
        owe(x, 5, 0, 1);
        for (int i = 0; i < 12; i++) {
            A.due("count(3)", x.count(3), i);
            A.due("told", x.told(0, i % 6, (i + 1) % 6), i);
        }
        A.due("a 13th", x.told(0, 0, 1), -4);
        A.due("a 13th, BAD first", x.told(1, 0, 1), -2);
        A.due("count(3)", x.count(3), 12);
        A.due("FULL", x.status(2), 1);
        A.due("BAD", x.status(0), 1);
    }

    private static void passesToldBad() {
        A.sentence("told: BAD: to the same one, too");
        FavoursGoOff x = street(3);
        A.due("no FAVOUR", x.told(0, 0, 1), -2);
        owe(x, 0, 1, 1);
        A.due("told(-1, 0, 1)", x.told(-1, 0, 1), -2);
        A.due("told(1, 0, 1)", x.told(1, 0, 1), -2);
        A.due("from NONE", x.told(0, -1, 1), -2);
        A.due("from one too many", x.told(0, 3, 1), -2);
        A.due("to NONE", x.told(0, 1, -1), -2);
        A.due("to one too many", x.told(0, 1, 3), -2);
        for (int p = 0; p < 3; p++) {
            A.due("to the same one", x.told(0, p, p), -2);
        }
        A.due("count(3)", x.count(3), 0);
        A.due("BAD", x.status(0), 10);
        x.ask(0);
        A.due("of a GONE one it may be told", x.told(0, 2, 0), 0);
    }

    private static void forgedNone() {
        A.sentence("FORGED: .. none (NONE)");
        FavoursGoOff x = street(3);
        A.due("none told", x.forged(), -1);
        owe(x, 0, 1, 1);
        for (int i = 0; i < 12; i++) {
            x.told(0, i % 2 == 0 ? 1 : 2, i % 2 == 0 ? 2 : 1);
            A.due("all true", x.forged(), -1);
        }
        A.due("nothing is passed by it", x.of(0), 1);
        x.pass(0, 2);
        A.due("from how it is now", x.forged(), 0);
    }

    private static void forgedTheFirst() {
        A.sentence("FORGED: the first by which one passes what he does not have then");
        FavoursGoOff x = street(4);
        owe(x, 0, 1, 1);
        owe(x, 0, 2, 1);
        x.told(0, 1, 3);
        x.told(1, 2, 0);
        A.due("true, and home", x.forged(), -1);
        A.due("he gave it away", x.told(0, 1, 2), 2);
        A.due("the third", x.forged(), 2);
        A.due("another true one", x.told(0, 3, 1), 3);
        A.due("still the third", x.forged(), 2);
        A.due("another false one", x.told(0, 3, 2), 4);
        A.due("still the first false one", x.forged(), 2);
        x.forget();
        for (int i = 0; i < 11; i++) {
            x.told(0, i % 2 == 0 ? 1 : 3, i % 2 == 0 ? 3 : 1);
        }
        A.due("eleven true ones", x.forged(), -1);
        x.told(0, 1, 2);
        A.due("the twelfth is not", x.forged(), 11);
        x.forget();
        x.told(0, 2, 1);
        x.told(0, 1, 2);
        A.due("the first of all", x.forged(), 0);
    }

    private static void forgedAsIfAllCouldBePassed() {
        A.sentence("FORGED: as if all could be passed");
        FavoursGoOff x = street(4);
        x.favour(HOLY, 0, 1, 0, 5, 0);
        x.favour(UNBORN, 0, 1, 0, 5, 99);
        x.favour(PLAIN, 0, 1, 0, 5, 0);
        x.night();
        x.told(0, 1, 2);
        x.told(1, 1, 2);
        x.told(2, 1, 2);
        A.due("HOLY, unborn, gone off", x.forged(), -1);
        x.told(0, 2, 3);
        x.told(1, 2, 3);
        x.told(2, 2, 3);
        A.due("and on", x.forged(), -1);
        x.told(0, 2, 1);
        A.due("he does not have it", x.forged(), 6);
    }

    private static void forgedComeHome() {
        A.sentence("FORGED: come home: GONE");
        FavoursGoOff x = street(3);
        owe(x, 0, 1, 5);
        x.told(0, 1, 0);
        A.due("home", x.forged(), -1);
        x.told(0, 0, 2);
        A.due("who owes it does not have it", x.forged(), 1);
        x.forget();
        x.told(0, 1, 0);
        x.told(0, 1, 2);
        A.due("nor who had it", x.forged(), 1);
        x.forget();
        x.told(0, 0, 1);
        A.due("who owes it never had it", x.forged(), 0);
    }

    private static void forgedGoneOnes() {
        A.sentence("FORGED: GONE ones nobody has");
        FavoursGoOff x = street(3);
        owe(x, 0, 1, 5);
        owe(x, 0, 1, 5);
        owe(x, 0, 1, 5);
        owe(x, 0, 1, 5);
        x.told(3, 1, 2);
        A.due("none GONE", x.forged(), -1);
        x.ask(0);
        x.join(3, 1);
        x.pass(2, 0);
        for (int f = 0; f < 3; f++) {
            for (int p = 0; p < 3; p++) {
                x.told(f, p, (p + 1) % 3);
                A.due("told(" + f + ", " + p + ", ..)", x.forged(), 1);
                x.forget();
                x.told(3, 1, 2);
            }
        }
    }

    private static void forgetFromNoneToTwelve() {
        A.sentence("forget: No PASSES: how many there were");
        FavoursGoOff x = street(3);
        A.due("of none", x.forget(), 0);
        owe(x, 0, 1, 5);
        for (int i = 0; i < 13; i++) {
            x.told(0, 2, 1);
        }
        A.due("of twelve", x.forget(), 12);
        A.due("count(3)", x.count(3), 0);
        A.due("of none again", x.forget(), 0);
        A.due("FORGED", x.forged(), -1);
        A.due("the next is the first", x.told(0, 1, 2), 0);
        A.due("and true", x.forged(), -1);
        A.due("of one", x.forget(), 1);
    }

    private static FavoursGoOff goingOff() {
        FavoursGoOff x = new FavoursGoOff();
        x.favour(PLAIN, 0, 1, 0, 5, 2);
        x.favour(FADING, 0, 1, 0, 4, 99);
        x.favour(HOLY, 0, 1, 0, 40, 0);
        x.favour(UNBORN, 0, 1, 0, 30, 3);
        x.favour(KEEN, 0, 1, 0, 5, 99);
        return x;
    }

    private static void goesOffByNow() {
        A.sentence("GOES OFF by a DAY: VALUES now less VALUES of that DAY");
        FavoursGoOff x = goingOff();
        int[] due = {0, 3, 6, 13, 14, 14};
        for (int day = 0; day < due.length; day++) {
            A.due("goesOff(" + day + ")", x.goesOff(day), due[day]);
        }
        A.due("goesOff(99)", x.goesOff(99), 14);
        Answers.nights(x, 2);
        A.due("now", x.goesOff(2), 0);
        A.due("by the next DAY", x.goesOff(3), 5 + 1 + 1);
        Answers.nights(x, 97);
        A.due("on the last DAY", x.goesOff(99), 0);
    }

    private static void goesOffWorthLessThen() {
        A.sentence("GOES OFF: together of all FAVOURS that are worth less then");
        FavoursGoOff x = new FavoursGoOff();
        A.due("of none", x.goesOff(99), 0);
        x.favour(HOLY, 0, 1, 0, 1, 0);
        x.favour(UNBORN, 0, 1, 0, 40, 99);
        A.due("those worth more do not count", x.goesOff(99), 0);
        x.favour(FADING, 0, 1, 0, 1, 99);
        A.due("1 that fades", x.goesOff(1), 1);
        A.due("and not more", x.goesOff(99), 1);
        for (int f = 3; f < 12; f++) {
            x.favour(PLAIN, 0, 1, 0, 40, 98);
        }
        A.due("nine of 40", x.goesOff(99), 361);
        A.due("not yet", x.goesOff(98), 1);
        x.pass(3, 0);
        A.due("GONE", x.goesOff(99), 321);
    }

    private static void goesOffBad() {
        A.sentence("goesOff: BAD: a DAY that is over, too");
        FavoursGoOff x = goingOff();
        A.due("goesOff(-1)", x.goesOff(-1), -2);
        A.due("goesOff(100)", x.goesOff(100), -2);
        Answers.nights(x, 98);
        A.due("97", x.goesOff(97), -2);
        A.due("98", x.goesOff(98), 0);
        A.due("99", x.goesOff(99), 0);
        x.night();
        A.due("98, over", x.goesOff(98), -2);
        A.due("0, over", x.goesOff(0), -2);
        A.due("BAD", x.status(0), 5);
    }
}
