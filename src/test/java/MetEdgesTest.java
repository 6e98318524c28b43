/** Promises 22, 23 and 32 and their Terms (PLAN, MET, KEPT), sentence by sentence. */
public final class MetEdgesTest {
    private static final Answers A = new Answers();
    private static final int PLAIN = 0, FADING = 1, HOLY = 2, UNBORN = 3, KEEN = 4;

    public static void main(String[] args) {
        planOfThatPersonAndThing();
        planSizeAtLeast();
        planOfThatDay();
        planNoFavourTwice();
        planNoMoreThanStrength();
        planStrengthOfEachDay();
        planStrengthOfEachPerson();
        planOfValueNone();
        planOfTheFirstAndTheLast();
        metTheMostNeeds();
        metTheMostWhereOneFitsBoth();
        metThenTheLeastValue();
        metThenTheFirstByNeeds();
        metNoneBehindAll();
        metOfFiveByTwelve();
        metOfNone();
        metOfADayThatIsOver();
        metAsItIsNow();
        metBad();
        planBad();
        keptOfNoNeeds();
        keptZeroToTen();
        keptAtLeast();
        keptOfFive();
        keptOfThoseMetAlone();
        keptBad();
        A.end("MetEdgesTest");
    }

    private static void owe(FavoursGoOff x, int by, int worth) {
        x.favour(PLAIN, by, 1, 0, worth, 99);
    }

    private static void met(FavoursGoOff x, int needs, int value, int... favours) {
        A.due("met(0)", x.met(0), needs);
        A.due("met(1)", x.met(1), value);
        for (int need = 0; need < favours.length; need++) {
            A.due("plan(" + need + ")", x.plan(need), favours[need]);
        }
        A.due("plan(" + favours.length + ")", x.plan(favours.length), -2);
    }

    private static void planOfThatPersonAndThing() {
        A.sentence("PLAN: for each NEED a FAVOUR of that PERSON of that THING");
        FavoursGoOff x = new FavoursGoOff();
        x.need(1, 3, 5, 0);
        x.favour(PLAIN, 0, 2, 3, 5, 99);
        x.favour(PLAIN, 1, 2, 3, 5, 99);
        x.favour(PLAIN, 0, 1, 2, 5, 99);
        x.favour(PLAIN, 0, 1, 0, 5, 99);
        met(x, 0, 0, -1);
        x.favour(PLAIN, 3, 1, 3, 5, 99);
        met(x, 1, 5, 4);
        x.pass(4, 2);
        met(x, 0, 0, -1);
        x.pass(0, 1);
        met(x, 1, 5, 0);
    }

    private static void planSizeAtLeast() {
        A.sentence("PLAN: whose VALUE on that DAY is SIZE at least");
        FavoursGoOff x = new FavoursGoOff();
        x.strong(0, 99);
        owe(x, 0, 39);
        x.need(1, 0, 40, 0);
        met(x, 0, 0, -1);
        owe(x, 0, 40);
        met(x, 1, 40, 1);
        x.contented();
        x.need(1, 0, 1, 0);
        met(x, 1, 39, 0);
        owe(x, 0, 1);
        met(x, 1, 1, 2);
        x.contented();
        x.need(1, 0, 2, 0);
        met(x, 1, 39, 0);
    }

    private static void planOfThatDay() {
        A.sentence("PLAN: VALUE on that DAY");
        FavoursGoOff x = new FavoursGoOff();
        x.favour(PLAIN, 0, 1, 0, 5, 3);
        x.need(1, 0, 5, 3);
        met(x, 1, 5, 0);
        x.contented();
        x.need(1, 0, 5, 4);
        met(x, 0, 0, -1);
        x.favour(FADING, 0, 1, 0, 8, 99);
        met(x, 0, 0, -1);
        x.favour(FADING, 0, 1, 0, 9, 99);
        met(x, 1, 5, 2);
        x.favour(KEEN, 0, 1, 0, 13, 99);
        met(x, 1, 5, 2);
        x.ask(2);
        met(x, 1, 5, 3);
        x.favour(UNBORN, 2, 1, 0, 5, 5);
        x.ask(3);
        met(x, 1, 5, 3);
        x.night();
        x.ask(3);
        met(x, 0, 0, -1);
        x.favour(UNBORN, 2, 1, 0, 5, 4);
        met(x, 1, 5, 5);
        x.contented();
        x.favour(HOLY, 3, 1, 0, 19, 0);
        x.need(1, 0, 20, 9);
        met(x, 0, 0, -1);
        x.need(1, 0, 20, 10);
        met(x, 1, 20, -1, 6);
    }

    private static void planNoFavourTwice() {
        A.sentence("PLAN: no FAVOUR twice");
        FavoursGoOff x = new FavoursGoOff();
        owe(x, 0, 1);
        x.need(1, 0, 1, 0);
        x.need(1, 0, 1, 99);
        met(x, 1, 1, 0, -1);
        owe(x, 2, 2);
        met(x, 2, 3, 0, 1);
        x.need(1, 0, 1, 50);
        met(x, 2, 3, 0, 1, -1);
    }

    private static void planNoMoreThanStrength() {
        A.sentence("PLAN: nobody does more on a DAY (VALUES of that DAY together) than his STRENGTH");
        FavoursGoOff x = new FavoursGoOff();
        owe(x, 0, 20);
        x.need(1, 0, 20, 0);
        met(x, 1, 20, 0);
        x.strong(0, 19);
        met(x, 0, 0, -1);
        x.strong(0, 20);
        owe(x, 0, 1);
        x.need(1, 0, 1, 0);
        met(x, 1, 1, -1, 1);
        x.strong(0, 21);
        met(x, 2, 21, 0, 1);
        x.strong(0, 0);
        met(x, 0, 0, -1, -1);
        x.strong(0, 1);
        met(x, 1, 1, -1, 1);
    }

    private static void planStrengthOfEachDay() {
        A.sentence("PLAN: on a DAY");
        FavoursGoOff x = new FavoursGoOff();
        owe(x, 0, 20);
        owe(x, 0, 20);
        x.need(1, 0, 20, 5);
        x.need(1, 0, 20, 5);
        met(x, 1, 20, 0, -1);
        x.contented();
        x.need(1, 0, 20, 5);
        x.need(1, 0, 20, 6);
        met(x, 2, 40, 0, 1);
        x.need(1, 0, 1, 5);
        x.favour(FADING, 0, 1, 0, 6, 99);
        met(x, 2, 21, -1, 0, 2);
    }

    private static void planStrengthOfEachPerson() {
        A.sentence("PLAN: nobody .. than his STRENGTH");
        FavoursGoOff x = new FavoursGoOff();
        x.people(6);
        for (int by = 0; by < 6; by++) {
            x.strong(by, 5);
            if (by != 1) {
                owe(x, by, 5);
            }
        }
        for (int n = 0; n < 5; n++) {
            x.need(1, 0, 5, 0);
        }
        met(x, 5, 25, 0, 1, 2, 3, 4);
        x.strong(5, 4);
        met(x, 4, 20, 0, 1, 2, 3, -1);
        x.strong(0, 4);
        met(x, 3, 15, 1, 2, 3, -1, -1);
        x.strong(1, 0);
        met(x, 3, 15, 1, 2, 3, -1, -1);
    }

    private static void planOfValueNone() {
        A.sentence("PLAN: a FAVOUR .. (one of VALUE 0 or GONE is none)");
        FavoursGoOff x = new FavoursGoOff();
        x.favour(PLAIN, 0, 1, 0, 9, 0);
        x.need(1, 0, 1, 1);
        met(x, 0, 0, -1);
        owe(x, 0, 1);
        met(x, 1, 1, 1);
        x.ask(1);
        met(x, 0, 0, -1);
        owe(x, 0, 1);
        x.pass(2, 0);
        met(x, 0, 0, -1);
    }

    private static void planOfTheFirstAndTheLast() {
        A.sentence("PLAN: than his STRENGTH (of who owes the first FAVOUR, the last one)");
        FavoursGoOff x = new FavoursGoOff();
        x.people(6);
        x.strong(0, 0);
        x.strong(5, 4);
        owe(x, 5, 4);
        x.need(1, 0, 1, 0);
        met(x, 1, 4, 0);
        for (int f = 1; f < 11; f++) {
            x.favour(PLAIN, 2, 3, 0, 1, 99);
        }
        owe(x, 0, 1);
        met(x, 1, 4, 0);
        x.strong(0, 1);
        met(x, 1, 1, 11);
        x.strong(0, 0);
        x.strong(5, 3);
        met(x, 0, 0, -1);
    }

    private static void metTheMostWhereOneFitsBoth() {
        A.sentence("MET: the most NEEDS (a FAVOUR that fits both is left to whom no other fits)");
        FavoursGoOff x = new FavoursGoOff();
        x.favour(PLAIN, 0, 1, 0, 5, 99);
        x.favour(PLAIN, 2, 1, 0, 6, 0);
        x.need(1, 0, 5, 0);
        x.need(1, 0, 5, 9);
        met(x, 2, 11, 1, 0);
        x.people(4);
        for (int f = 0; f < 4; f++) {
            x.favour(PLAIN, f == 1 ? 0 : f, 1, 0, 5 + f, f);
        }
        owe(x, 0, 4);
        for (int n = 0; n < 5; n++) {
            x.need(1, 0, 4, n);
        }
        met(x, 5, 5 + 6 + 7 + 8 + 4, 0, 1, 2, 3, 4);
        x.contented();
        for (int n = 0; n < 5; n++) {
            x.need(1, 0, 4, 3 - n < 0 ? 0 : 3 - n);
        }
        met(x, 5, 5 + 6 + 7 + 8 + 4, 3, 2, 1, 0, 4);
    }

    private static void metTheMostNeeds() {
        A.sentence("MET: that with the most NEEDS that have one");
        FavoursGoOff x = new FavoursGoOff();
        owe(x, 0, 1);
        owe(x, 2, 20);
        owe(x, 3, 20);
        x.need(1, 0, 1, 0);
        x.need(1, 0, 20, 0);
        x.need(1, 0, 20, 0);
        met(x, 3, 41, 0, 1, 2);
        x.ask(0);
        met(x, 2, 40, 1, 2, -1);
        x.people(4);
        owe(x, 0, 10);
        owe(x, 0, 10);
        owe(x, 0, 20);
        x.need(1, 0, 20, 0);
        x.need(1, 0, 10, 0);
        x.need(1, 0, 10, 0);
        met(x, 2, 20, -1, 0, 1);
    }

    private static void metThenTheLeastValue() {
        A.sentence("MET: then the least VALUE in all");
        FavoursGoOff x = new FavoursGoOff();
        owe(x, 0, 9);
        owe(x, 2, 8);
        owe(x, 3, 7);
        x.need(1, 0, 7, 0);
        met(x, 1, 7, 2);
        x.need(1, 0, 8, 0);
        met(x, 2, 15, 2, 1);
        x.need(1, 0, 9, 0);
        met(x, 3, 24, 2, 1, 0);
        x.contented();
        x.need(1, 0, 9, 0);
        x.need(1, 0, 7, 0);
        met(x, 2, 16, 0, 2);
        x.people(4);
        x.strong(0, 10);
        owe(x, 0, 6);
        owe(x, 0, 4);
        owe(x, 2, 5);
        x.need(1, 0, 4, 0);
        x.need(1, 0, 4, 0);
        met(x, 2, 9, 1, 2);
        x.strong(2, 4);
        met(x, 2, 10, 0, 1);
        x.strong(0, 9);
        met(x, 1, 4, 1, -1);
        x.favour(FADING, 3, 1, 0, 20, 99);
        x.contented();
        x.need(1, 0, 5, 16);
        x.need(1, 0, 4, 15);
        met(x, 2, 10, 0, 1);
    }

    private static void metThenTheFirstByNeeds() {
        A.sentence("MET: then the first by NEEDS (FAVOURS rising ..)");
        FavoursGoOff x = new FavoursGoOff();
        for (int f = 0; f < 4; f++) {
            owe(x, f == 1 ? 0 : f, 5);
        }
        x.need(1, 0, 5, 0);
        met(x, 1, 5, 0);
        x.need(1, 0, 5, 0);
        met(x, 2, 10, 0, 1);
        x.strong(0, 9);
        met(x, 2, 10, 0, 2);
        x.strong(0, 4);
        met(x, 2, 10, 2, 3);
        x.people(4);
        owe(x, 0, 6);
        owe(x, 2, 5);
        x.need(1, 0, 5, 0);
        x.need(1, 0, 5, 0);
        met(x, 2, 11, 0, 1);
        x.contented();
        x.need(1, 0, 5, 0);
        x.need(1, 0, 6, 0);
        met(x, 2, 11, 1, 0);
    }

    private static void metNoneBehindAll() {
        A.sentence("MET: .. none behind all");
        FavoursGoOff x = new FavoursGoOff();
        for (int f = 0; f < 11; f++) {
            owe(x, 0, 40);
        }
        owe(x, 0, 5);
        x.need(1, 0, 5, 0);
        x.need(1, 0, 5, 0);
        met(x, 1, 5, 11, -1);
        x.strong(0, 10);
        x.need(1, 0, 5, 0);
        met(x, 1, 5, 11, -1, -1);
        x.ask(11);
        met(x, 0, 0, -1, -1, -1);
        x.strong(0, 40);
        met(x, 1, 40, 0, -1, -1);
        x.contented();
        x.need(2, 0, 5, 0);
        x.need(1, 0, 5, 0);
        met(x, 1, 40, -1, 0);
    }

    private static void metOfFiveByTwelve() {
        A.sentence("NEEDS 0 .. 4, FAVOURS 0 .. 11");
        FavoursGoOff x = new FavoursGoOff();
        x.strong(0, 99);
        for (int f = 0; f < 12; f++) {
            owe(x, 0, 12 - f);
        }
        for (int n = 0; n < 5; n++) {
            x.need(1, 0, 1, 99);
        }
        met(x, 5, 15, 7, 8, 9, 10, 11);
        x.strong(0, 14);
        met(x, 4, 10, 8, 9, 10, 11, -1);
        x.strong(0, 10);
        met(x, 4, 10, 8, 9, 10, 11, -1);
        x.strong(0, 9);
        met(x, 3, 6, 9, 10, 11, -1, -1);
        x.strong(0, 1);
        met(x, 1, 1, 11, -1, -1, -1, -1);
    }

    private static void metOfNone() {
        A.sentence("met: how many NEEDS (0), the VALUE in all (1)");
        FavoursGoOff x = new FavoursGoOff();
        met(x, 0, 0);
        owe(x, 0, 5);
        x.favour(PLAIN, 1, 0, 0, 5, 99);
        met(x, 0, 0);
        x.need(1, 0, 6, 0);
        met(x, 0, 0, -1);
        x.need(1, 0, 5, 0);
        met(x, 1, 5, -1, 0);
        x.contented();
        met(x, 0, 0);
    }

    private static void metOfADayThatIsOver() {
        A.sentence("NEEDS: on a DAY (now or later: as they come)");
        FavoursGoOff x = new FavoursGoOff();
        x.favour(PLAIN, 0, 1, 0, 5, 2);
        x.need(1, 0, 5, 2);
        Answers.nights(x, 2);
        met(x, 1, 5, 0);
        x.night();
        met(x, 1, 5, 0);
        A.due("though it is of VALUE 0 now", x.value(0, 3), 0);
    }

    private static void metAsItIsNow() {
        A.sentence("MET: as PEOPLE, FAVOURS, NEEDS are behind each call");
        FavoursGoOff x = new FavoursGoOff();
        met(x, 0, 0);
        x.need(1, 0, 5, 9);
        met(x, 0, 0, -1);
        owe(x, 0, 20);
        met(x, 1, 20, 0);
        owe(x, 0, 9);
        met(x, 1, 9, 1);
        x.image(0);
        x.night();
        owe(x, 0, 8);
        met(x, 1, 8, 2);
        x.undo();
        met(x, 1, 9, 1);
        x.join(0, 1);
        met(x, 0, 0, -1);
        x.strong(0, 40);
        met(x, 1, 29, 0);
        x.from(0);
        met(x, 1, 9, 1);
        x.ask(1);
        met(x, 1, 20, 0);
        x.pass(0, 2);
        met(x, 0, 0, -1);
        owe(x, 2, 7);
        x.favour(PLAIN, 1, 2, 0, 1, 99);
        met(x, 1, 7, 2);
        A.due("cancel", x.cancel(), 2);
        met(x, 0, 0, -1);
        owe(x, 2, 6);
        met(x, 1, 6, 4);
        x.contented();
        met(x, 0, 0);
        x.need(1, 0, 5, 9);
        met(x, 1, 6, 4);
        A.due("read", Answers.readText(x, "people2;favour0 0 1 0 5 9;need1 0 5 9;"), 3);
        met(x, 1, 5, 0);
        x.people(2);
        met(x, 0, 0);
    }

    private static void metBad() {
        A.sentence("met: BAD");
        FavoursGoOff x = new FavoursGoOff();
        A.due("met(-1)", x.met(-1), -2);
        A.due("met(2)", x.met(2), -2);
        A.due("BAD", x.status(0), 2);
    }

    private static void planBad() {
        A.sentence("plan: The FAVOUR of a NEED in MET. NONE: none. BAD");
        FavoursGoOff x = new FavoursGoOff();
        A.due("plan(0) of none", x.plan(0), -2);
        A.due("plan(-1)", x.plan(-1), -2);
        for (int n = 0; n < 5; n++) {
            x.need(1, 0, 1, 0);
            A.due("plan(" + n + ")", x.plan(n), -1);
            A.due("plan(" + (n + 1) + ")", x.plan(n + 1), -2);
        }
        A.due("BAD", x.status(0), 7);
        A.due("NO", x.status(1), 0);
    }

    private static void kept(FavoursGoOff x, int w, int k, long above, long below) {
        A.due("kept(" + w + ", " + k + ")", x.kept(w, k), 1);
        A.due("above of " + w + ", " + k, x.part(0), above);
        A.due("below of " + w + ", " + k, x.part(1), below);
    }

    private static FavoursGoOff withMet(int n) {
        FavoursGoOff x = new FavoursGoOff();
        for (int i = 0; i < n; i++) {
            owe(x, 0, 1);
            x.need(1, 0, 1, 0);
        }
        return x;
    }

    private static void keptOfNoNeeds() {
        A.sentence("KEPT: k (0 .. 5) NEEDS at least have theirs (of none)");
        FavoursGoOff x = withMet(0);
        for (int w = 0; w <= 10; w += 5) {
            kept(x, w, 0, 1, 1);
            kept(x, w, 1, 0, 1);
            kept(x, w, 5, 0, 1);
        }
    }

    private static void keptZeroToTen() {
        A.sentence("KEPT: each FAVOUR of MET is kept with w of 10 (0 .. 10)");
        FavoursGoOff x = withMet(1);
        kept(x, 0, 0, 1, 1);
        kept(x, 0, 1, 0, 1);
        kept(x, 1, 1, 1, 10);
        kept(x, 9, 1, 9, 10);
        kept(x, 10, 1, 1, 1);
        kept(x, 10, 0, 1, 1);
        kept(x, 10, 2, 0, 1);
    }

    private static void keptAtLeast() {
        A.sentence("KEPT: the chance that k NEEDS at least have theirs");
        FavoursGoOff x = withMet(2);
        kept(x, 1, 0, 1, 1);
        kept(x, 1, 1, 19, 100);
        kept(x, 1, 2, 1, 100);
        kept(x, 1, 3, 0, 1);
        x = withMet(3);
        kept(x, 2, 1, 61, 125);
        kept(x, 2, 2, 13, 125);
        kept(x, 2, 3, 1, 125);
    }

    private static void keptOfFive() {
        A.sentence("KEPT: of five NEEDS");
        FavoursGoOff x = withMet(5);
        kept(x, 3, 0, 1, 1);
        kept(x, 3, 1, 83193, 100000);
        kept(x, 3, 2, 23589, 50000);
        kept(x, 3, 3, 4077, 25000);
        kept(x, 3, 4, 1539, 50000);
        kept(x, 3, 5, 243, 100000);
        kept(x, 0, 5, 0, 1);
        kept(x, 10, 5, 1, 1);
        kept(x, 9, 5, 59049, 100000);
        kept(x, 1, 5, 1, 100000);
    }

    private static void keptOfThoseMetAlone() {
        A.sentence("KEPT: each FAVOUR of MET");
        FavoursGoOff x = withMet(2);
        x.need(1, 0, 1, 0);
        owe(x, 2, 1);
        x.need(3, 0, 1, 0);
        kept(x, 5, 3, 1, 8);
        kept(x, 5, 4, 0, 1);
        x.strong(0, 1);
        kept(x, 5, 3, 0, 1);
        kept(x, 5, 2, 1, 4);
        x.strong(0, 0);
        x.strong(2, 0);
        kept(x, 5, 1, 0, 1);
        kept(x, 5, 0, 1, 1);
    }

    private static void keptBad() {
        A.sentence("kept: KEPT is THE FRACTION: 1. BAD");
        FavoursGoOff x = withMet(2);
        kept(x, 5, 2, 1, 4);
        A.due("kept(-1, 0)", x.kept(-1, 0), -2);
        A.due("kept(11, 0)", x.kept(11, 0), -2);
        A.due("kept(0, -1)", x.kept(0, -1), -2);
        A.due("kept(0, 6)", x.kept(0, 6), -2);
        A.due("THE FRACTION stays", x.part(0) * 10 + x.part(1), 14);
        A.due("BAD", x.status(0), 4);
        x.contented();
        A.due("THE FRACTION stays without NEEDS", x.part(0) * 10 + x.part(1), 14);
    }
}
