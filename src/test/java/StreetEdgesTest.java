/** Promises 1 to 11 and their Terms, sentence by sentence: the least and the greatest that is told, and just outside. */
public final class StreetEdgesTest {
    private static final Answers A = new Answers();
    private static final int PLAIN = 0, FADING = 1, HOLY = 2, UNBORN = 3, KEEN = 4;

    public static void main(String[] args) {
        daysAreNowAtFirst();
        peopleAtFirst();
        aNewObjectHasNothing();
        peopleAreTwoToSix();
        peopleAndNothingElse();
        strengthIsToNinetyNine();
        kindsAndThings();
        worthAndTill();
        favoursAreTwelve();
        goneOnesStayFavours();
        madeIsTheDayItCame();
        needsAreFive();
        needsAreNowOrLater();
        contentedFromNoneToFive();
        typeOneToEight();
        typeBytesOfAnySign();
        textIsTwoHundredAndFifty();
        clearFromNoneToAll();
        plainToItsTill();
        fadingFromItsMade();
        holyBehindItsTill();
        unbornAtItsTill();
        keenFromItsMade();
        noValueBelowZero();
        goneOnesHaveNoValue();
        valueOnAnyDay();
        whoHasAFavour();
        A.end("StreetEdgesTest");
    }

    private static void daysAreNowAtFirst() {
        A.sentence("DAYS 0 .. 99 (0 now, at first)");
        FavoursGoOff x = new FavoursGoOff();
        A.due("count(4)", x.count(4), 0);
        A.due("favour till DAY 0", x.favour(PLAIN, 0, 1, 0, 5, 0), 0);
        A.due("favour till DAY 99", x.favour(PLAIN, 0, 1, 0, 5, 99), 1);
        A.due("favour till DAY -1", x.favour(PLAIN, 0, 1, 0, 5, -1), -2);
        A.due("favour till DAY 100", x.favour(PLAIN, 0, 1, 0, 5, 100), -2);
        A.due("need now", x.need(0, 0, 1, 0), 0);
        A.due("need on DAY 99", x.need(0, 0, 1, 99), 1);
        Answers.nights(x, 98);
        A.due("count(4) behind 98 NIGHTS", x.count(4), 98);
        A.due("the 99th NIGHT", x.night(), 99);
        A.due("there is no DAY 100", x.night(), -3);
        A.due("count(4) behind it", x.count(4), 99);
    }

    private static void peopleAtFirst() {
        A.sentence("PEOPLE 0 to n less 1 (n 2 .. 6; 4 at first), of STRENGTH (0 .. 99; 20 at first) each");
        FavoursGoOff x = new FavoursGoOff();
        A.due("count(0)", x.count(0), 4);
        for (int p = 0; p < 4; p++) {
            A.due("strong(" + p + ", 20) at first", x.strong(p, 20), 20);
            A.due("net(" + p + ")", x.net(p), 0);
        }
        A.due("strong(4, 20): none such", x.strong(4, 20), -2);
        A.due("net(4)", x.net(4), -10000);
        A.due("favour of the last by the first", x.favour(PLAIN, 0, 3, 0, 1, 0), 0);
        A.due("favour by one too many", x.favour(PLAIN, 4, 3, 0, 1, 0), -2);
        A.due("favour of one too many", x.favour(PLAIN, 3, 4, 0, 1, 0), -2);
    }

    private static void aNewObjectHasNothing() {
        A.sentence("FavoursGoOff(): As told; no FAVOURS");
        FavoursGoOff x = new FavoursGoOff();
        for (int what = 1; what <= 6; what++) {
            A.due("count(" + what + ")", x.count(what), 0);
        }
        for (int what = 0; what <= 2; what++) {
            A.due("status(" + what + ")", x.status(what), 0);
        }
        for (int thing = 0; thing < 4; thing++) {
            A.due("rate(" + thing + ", 0)", x.rate(thing, 0), 10);
            A.due("rate(" + thing + ", 99)", x.rate(thing, 99), 10);
        }
        A.due("of(0)", x.of(0), -2);
        A.due("plan(0)", x.plan(0), -2);
        A.due("part(0)", x.part(0), 0);
        A.due("part(1)", x.part(1), 1);
        A.due("ring(-1)", x.ring(-1), 0);
        A.due("fewest()", x.fewest(), 0);
        A.due("met(0)", x.met(0), 0);
        A.due("met(1)", x.met(1), 0);
        A.due("fire(0, 0)", x.fire(0, 0), 0);
        A.due("fire(0, 1)", x.fire(0, 1), 0);
        A.due("settles()", x.settles(), 0);
        A.due("forged()", x.forged(), -1);
        A.due("goesOff(99)", x.goesOff(99), 0);
        A.due("undo()", x.undo(), -3);
        A.due("from(0)", x.from(0), -3);
        A.due("from(1)", x.from(1), -3);
        A.due("read()", x.read(), -10);
    }

    private static void peopleAreTwoToSix() {
        A.sentence("people: n PEOPLE, of STRENGTH 20, nothing else (RATES stay): what n was. BAD");
        FavoursGoOff x = new FavoursGoOff();
        A.due("people(1)", x.people(1), -2);
        A.due("people(2)", x.people(2), 4);
        A.due("strong(1, 7)", x.strong(1, 7), 20);
        A.due("strong(2, 7) of two", x.strong(2, 7), -2);
        A.due("people(2) again", x.people(2), 2);
        A.due("STRENGTH 20 anew", x.strong(1, 7), 20);
        A.due("people(6)", x.people(6), 2);
        A.due("strong(5, 7)", x.strong(5, 7), 20);
        A.due("strong(1, 7) anew", x.strong(1, 7), 20);
        A.due("strong(6, 7) of six", x.strong(6, 7), -2);
        A.due("people(7)", x.people(7), -2);
        A.due("a refused one leaves six", x.count(0), 6);
        A.due("and their STRENGTH", x.strong(5, 7), 7);
        A.due("people(3)", x.people(3), 6);
        A.due("people(6), the last one anew", x.people(6) + x.strong(5, 1), 3 + 20);
        A.due("BAD", x.status(0), 4);
    }

    private static void peopleAndNothingElse() {
        A.sentence("people: nothing else (RATES stay)");
        FavoursGoOff x = new FavoursGoOff();
        x.favour(PLAIN, 0, 1, 0, 20, 99);
        x.favour(PLAIN, 1, 0, 0, 20, 99);
        x.need(1, 0, 1, 99);
        x.told(0, 1, 2);
        x.set(0, 1);
        x.set(3, 99);
        Answers.nights(x, 99);
        x.ask(0);
        A.due("people(4)", x.people(4), 4);
        for (int what = 1; what <= 5; what++) {
            A.due("count(" + what + ")", x.count(what), 0);
        }
        A.due("RATES stay: the least", x.rate(0, 0), 1);
        A.due("RATES stay: the greatest", x.rate(3, 0), 99);
        A.due("no FAVOUR", x.of(0), -2);
        A.due("no NEED", x.met(0), 0);
        A.due("no PASS told", x.forged(), -1);
        A.due("nobody OWES", x.owes(1, 0), 0);
        A.due("no NIGHT to undo", x.undo(), -3);
        A.due("a FAVOUR comes as the first", x.favour(FADING, 0, 1, 0, 20, 99), 0);
        A.due("on DAY 0", x.value(0, 1), 19);
        A.due("nobody did anything", x.ask(0), 20);
    }

    private static void strengthIsToNinetyNine() {
        A.sentence("strong: STRENGTH of one: what it was (0 .. 99)");
        FavoursGoOff x = new FavoursGoOff();
        A.due("strong(3, -1)", x.strong(3, -1), -2);
        A.due("strong(3, 100)", x.strong(3, 100), -2);
        A.due("strong(3, 0)", x.strong(3, 0), 20);
        A.due("strong(3, 99)", x.strong(3, 99), 0);
        A.due("strong(3, 1)", x.strong(3, 1), 99);
        A.due("strong(3, 98)", x.strong(3, 98), 1);
        A.due("strong(-1, 1)", x.strong(-1, 1), -2);
        A.due("the others are as they were", x.strong(0, 20) + x.strong(1, 20) + x.strong(2, 20), 60);
        A.due("strong(3, 20)", x.strong(3, 20), 98);
    }

    private static void kindsAndThings() {
        A.sentence("a KIND (0 .. 4), BY, OF unlike, THING (0 .. 3)");
        FavoursGoOff x = new FavoursGoOff();
        x.people(2);
        A.due("kind 0", x.favour(0, 0, 1, 0, 1, 99), 0);
        A.due("kind 4", x.favour(4, 0, 1, 0, 1, 99), 1);
        A.due("kind -1", x.favour(-1, 0, 1, 0, 1, 99), -2);
        A.due("kind 5", x.favour(5, 0, 1, 0, 1, 99), -2);
        A.due("thing 3", x.favour(0, 1, 0, 3, 1, 99), 2);
        A.due("thing 4", x.favour(0, 1, 0, 4, 1, 99), -2);
        A.due("thing -1", x.favour(0, 1, 0, -1, 1, 99), -2);
        A.due("BY, OF alike: 0", x.favour(0, 0, 0, 0, 1, 99), -2);
        A.due("BY, OF alike: 1", x.favour(0, 1, 1, 0, 1, 99), -2);
        A.due("BY of two", x.favour(0, 2, 1, 0, 1, 99), -2);
        A.due("OF of two", x.favour(0, 1, 2, 0, 1, 99), -2);
        A.due("BY NONE", x.favour(0, -1, 1, 0, 1, 99), -2);
        A.due("OF NONE", x.favour(0, 1, -1, 0, 1, 99), -2);
        A.due("no number is used up by a refused one", x.favour(0, 1, 0, 0, 1, 99), 3);
        x.people(6);
        A.due("BY the sixth", x.favour(0, 5, 0, 0, 1, 99), 0);
        A.due("OF the sixth", x.favour(0, 0, 5, 0, 1, 99), 1);
    }

    private static void worthAndTill() {
        A.sentence("WORTH (1 .. 40), TILL (a DAY)");
        FavoursGoOff x = new FavoursGoOff();
        A.due("worth 0", x.favour(0, 0, 1, 0, 0, 99), -2);
        A.due("worth 1", x.favour(0, 0, 1, 0, 1, 99), 0);
        A.due("worth 40", x.favour(0, 0, 1, 0, 40, 99), 1);
        A.due("worth 41", x.favour(0, 0, 1, 0, 41, 99), -2);
        A.due("worth 1: its value", x.value(0, 99), 1);
        A.due("worth 40: its value", x.value(1, 99), 40);
        Answers.nights(x, 5);
        A.due("a TILL that is over", x.favour(0, 0, 1, 0, 7, 4), 2);
        A.due("is of VALUE 0 now", x.value(2, 5), 0);
        A.due("and of its WORTH then", x.value(2, 4), 7);
        A.due("a TILL that is now", x.favour(0, 0, 1, 0, 7, 5), 3);
        A.due("is of its WORTH now", x.value(3, 5), 7);
    }

    private static void favoursAreTwelve() {
        A.sentence("FAVOURS 0 .. 11, as they come; favour: its number; FULL: 12");
        FavoursGoOff x = new FavoursGoOff();
        for (int f = 0; f < 12; f++) {
            A.due("of(" + f + "), none yet", x.of(f), -2);
            A.due("count(1)", x.count(1), f);
            A.due("favour", x.favour(0, f % 3, 3, 0, 1 + f, 99), f);
            A.due("of(" + f + ")", x.of(f), 3);
        }
        A.due("a 13th", x.favour(0, 0, 1, 0, 1, 99), -4);
        A.due("a 13th, BAD first", x.favour(0, 0, 0, 0, 1, 99), -2);
        A.due("count(1)", x.count(1), 12);
        A.due("FULL", x.status(2), 1);
        A.due("BAD", x.status(0), 13);
        A.due("the last", x.value(11, 0), 12);
        A.due("of(12)", x.of(12), -2);
        A.due("value(12, 0)", x.value(12, 0), -2);
    }

    private static void goneOnesStayFavours() {
        A.sentence("FAVOURS (GONE ones, too)");
        FavoursGoOff x = new FavoursGoOff();
        for (int f = 0; f < 12; f++) {
            x.favour(0, 0, 1, 0, 1, 99);
        }
        x.ask(0);
        x.join(1, 2);
        x.pass(3, 0);
        A.due("count(1)", x.count(1), 12);
        A.due("a 13th", x.favour(0, 0, 1, 0, 1, 99), -4);
        A.due("FULL", x.status(2), 1);
    }

    private static void madeIsTheDayItCame() {
        A.sentence("MADE (the DAY it came)");
        FavoursGoOff x = new FavoursGoOff();
        x.favour(FADING, 0, 1, 0, 9, 99);
        x.night();
        x.favour(FADING, 0, 1, 0, 9, 99);
        Answers.nights(x, 98);
        x.favour(FADING, 0, 1, 0, 9, 99);
        A.due("came on DAY 0", x.value(0, 2), 7);
        A.due("came on DAY 1", x.value(1, 2), 8);
        A.due("came on DAY 99", x.value(2, 99), 9);
    }

    private static void needsAreFive() {
        A.sentence("NEEDS 0 .. 4, as they come: of a PERSON, a THING, SIZE (1 .. 40); FULL: 5");
        FavoursGoOff x = new FavoursGoOff();
        A.due("of person 4", x.need(4, 0, 1, 0), -2);
        A.due("of person -1", x.need(-1, 0, 1, 0), -2);
        A.due("thing 4", x.need(0, 4, 1, 0), -2);
        A.due("thing -1", x.need(0, -1, 1, 0), -2);
        A.due("size 0", x.need(0, 0, 0, 0), -2);
        A.due("size 41", x.need(0, 0, 41, 0), -2);
        A.due("size 1", x.need(0, 0, 1, 0), 0);
        A.due("size 40", x.need(0, 0, 40, 0), 1);
        A.due("thing 3 of person 3", x.need(3, 3, 1, 0), 2);
        A.due("the fourth", x.need(0, 0, 1, 0), 3);
        A.due("plan(4), none yet", x.plan(4), -2);
        A.due("the fifth", x.need(0, 0, 1, 0), 4);
        A.due("plan(4)", x.plan(4), -1);
        A.due("a sixth", x.need(0, 0, 1, 0), -4);
        A.due("a sixth, BAD first", x.need(0, 0, 41, 0), -2);
        A.due("count(2)", x.count(2), 5);
        A.due("FULL", x.status(2), 1);
        A.due("BAD", x.status(0), 8);
    }

    private static void needsAreNowOrLater() {
        A.sentence("NEEDS: on a DAY (now or later); BAD: a DAY that is over, too");
        FavoursGoOff x = new FavoursGoOff();
        Answers.nights(x, 98);
        A.due("97", x.need(0, 0, 1, 97), -2);
        A.due("98, now", x.need(0, 0, 1, 98), 0);
        A.due("99, later", x.need(0, 0, 1, 99), 1);
        A.due("100", x.need(0, 0, 1, 100), -2);
        x.night();
        A.due("98, over", x.need(0, 0, 1, 98), -2);
        A.due("99, now", x.need(0, 0, 1, 99), 2);
        x.undo();
        A.due("98, now again", x.need(0, 0, 1, 98), 2);
    }

    private static void contentedFromNoneToFive() {
        A.sentence("contented: No NEEDS: how many there were");
        FavoursGoOff x = new FavoursGoOff();
        A.due("of none", x.contented(), 0);
        for (int n = 0; n < 5; n++) {
            x.need(0, 0, 1, 0);
        }
        A.due("of five", x.contented(), 5);
        A.due("of none again", x.contented(), 0);
        A.due("the next is the first", x.need(0, 0, 1, 0), 0);
        A.due("of one", x.contented(), 1);
        A.due("nothing is refused", x.status(0) + x.status(1) + x.status(2), 0);
    }

    private static void typeOneToEight() {
        A.sentence("type: The lowest n (1 .. 8) bytes of v, the highest of them first: how many it has");
        FavoursGoOff x = new FavoursGoOff();
        A.due("n 0", x.type(32, 0), -2);
        A.due("n 9", x.type(32, 9), -2);
        A.due("n 1", x.type(0x1234567890ABCD70L, 1), 1);
        A.due("n 7", x.type(0x12656F706C652032L, 7), 8);
        A.due("n 1 more", x.type(';', 1), 9);
        A.due("people 2;", x.read(), 1);
        A.due("two PEOPLE", x.count(0), 2);
        x.clear();
        A.due("n 8", x.type(0x70656F706C652036L, 8), 8);
        A.due("n 8 with blanks behind ;", x.type(0x3B20202020202020L, 8), 16);
        A.due("people 6;", x.read(), 1);
        A.due("six PEOPLE", x.count(0), 6);
        for (int n = 2; n <= 6; n++) {
            x.clear();
            x.type(0x70656F706C652033L, 8);
            A.due("n " + n, x.type(0x203B202020202020L >>> 64 - 8 * n, n), 8 + n);
            A.due("people 3 ; by n " + n, x.read(), 1);
        }
    }

    private static void typeBytesOfAnySign() {
        A.sentence("type: bytes of v (0 .. 255 each)");
        FavoursGoOff x = new FavoursGoOff();
        Answers.write(x, "people 2;");
        A.due("LOW", x.type(Long.MIN_VALUE, 8), 17);
        A.due("its highest byte begins no TOKEN", x.read(), -10 - 9);
        Answers.write(x, "people 2;");
        A.due("-1", x.type(-1L, 8), 17);
        A.due("255 begins no TOKEN", x.read(), -10 - 9);
        Answers.write(x, "people 2;");
        A.due("0", x.type(0, 1), 10);
        A.due("0 begins no TOKEN", x.read(), -10 - 9);
        Answers.write(x, "people 2;");
        A.due("256 + 32, one byte of it", x.type(256 + 32, 1), 10);
        A.due("a blank", x.read(), 1);
    }

    private static void textIsTwoHundredAndFifty() {
        A.sentence("TEXT (250 bytes at most); FULL");
        FavoursGoOff x = new FavoursGoOff();
        Answers.write(x, "people 5;" + " ".repeat(233));
        A.due("242 and 8", x.type(0x2020202020202020L, 8), 250);
        A.due("250 and 1", x.type(32, 1), -4);
        A.due("250 and 8", x.type(32, 8), -4);
        A.due("250 and 0, BAD first", x.type(32, 0), -2);
        A.due("count(6)", x.count(6), 250);
        A.due("read of 250", x.read(), 1);
        Answers.write(x, "people 3;" + " ".repeat(234));
        A.due("243 and 8", x.type(-1L, 8), -4);
        A.due("none of them came", x.count(6), 243);
        A.due("243 and 7", x.type(0x20202020202020L, 7), 250);
        A.due("read of what came", x.read(), 1);
        Answers.write(x, "people 4;" + " ".repeat(240));
        A.due("249 and 2", x.type(0x2020, 2), -4);
        A.due("249 and 1", x.type(';', 1), 250);
        A.due("the last byte counts", x.read(), -10 - 249);
        A.due("FULL", x.status(2), 4);
    }

    private static void clearFromNoneToAll() {
        A.sentence("clear: THE TEXT is empty: how many it had");
        FavoursGoOff x = new FavoursGoOff();
        A.due("of none", x.clear(), 0);
        x.type('x', 1);
        A.due("of one", x.clear(), 1);
        Answers.append(x, " ".repeat(250));
        A.due("of 250", x.clear(), 250);
        A.due("of none again", x.clear(), 0);
        A.due("read of none", x.read(), -10);
        A.due("250 may come again", x.type(0x2020202020202020L, 8), 8);
    }

    private static FavoursGoOff one(int kind, int worth, int till, int made) {
        FavoursGoOff x = new FavoursGoOff();
        Answers.nights(x, made);
        x.favour(kind, 0, 1, 0, worth, till);
        return x;
    }

    private static void plainToItsTill() {
        A.sentence("PLAIN: WORTH, if the DAY is TILL at most; else 0");
        FavoursGoOff x = one(PLAIN, 7, 30, 5);
        int[] days = {0, 4, 5, 29, 30, 31, 99};
        int[] values = {7, 7, 7, 7, 7, 0, 0};
        values(x, days, values);
        values(one(PLAIN, 40, 99, 0), new int[] {0, 98, 99}, new int[] {40, 40, 40});
        values(one(PLAIN, 1, 0, 0), new int[] {0, 1, 99}, new int[] {1, 0, 0});
    }

    private static void fadingFromItsMade() {
        A.sentence("FADING (under PLAIN): that, less 1 for each DAY behind MADE");
        values(one(FADING, 7, 8, 3), new int[] {0, 2, 3, 4, 8, 9, 10}, new int[] {7, 7, 7, 6, 2, 0, 0});
        values(one(FADING, 40, 99, 0), new int[] {0, 1, 38, 39, 40, 41, 99}, new int[] {40, 39, 2, 1, 0, 0, 0});
        values(one(FADING, 1, 99, 50), new int[] {0, 49, 50, 51, 99}, new int[] {1, 1, 1, 0, 0});
    }

    private static void holyBehindItsTill() {
        A.sentence("HOLY (under PLAIN): WORTH, and, behind TILL, 1 more for each whole 10 DAYS");
        int[] days = {0, 4, 5, 14, 15, 16, 24, 25, 94, 95, 99};
        int[] values = {3, 3, 3, 3, 4, 4, 4, 5, 11, 12, 12};
        values(one(HOLY, 3, 5, 2), days, values);
        values(one(HOLY, 40, 0, 9), new int[] {0, 9, 10, 11, 89, 90, 99}, new int[] {40, 40, 41, 41, 48, 49, 49});
        values(one(HOLY, 40, 99, 0), new int[] {0, 98, 99}, new int[] {40, 40, 40});
    }

    private static void unbornAtItsTill() {
        A.sentence("UNBORN (under PLAIN): 0 ahead of TILL, then WORTH");
        values(one(UNBORN, 9, 6, 3), new int[] {0, 3, 5, 6, 7, 99}, new int[] {0, 0, 0, 9, 9, 9});
        values(one(UNBORN, 1, 0, 0), new int[] {0, 1, 99}, new int[] {1, 1, 1});
        values(one(UNBORN, 40, 99, 0), new int[] {0, 98, 99}, new int[] {0, 0, 40});
    }

    private static void keenFromItsMade() {
        A.sentence("KEEN (under FADING): that, less 1 more for each DAY behind MADE");
        values(one(KEEN, 9, 7, 3), new int[] {0, 2, 3, 4, 5, 6, 7, 8}, new int[] {9, 9, 9, 7, 5, 3, 1, 0});
        values(one(KEEN, 40, 99, 0), new int[] {0, 1, 19, 20, 21, 99}, new int[] {40, 38, 2, 0, 0, 0});
    }

    private static void noValueBelowZero() {
        A.sentence("VALUE (0 at least)");
        values(one(FADING, 2, 99, 0), new int[] {1, 2, 3, 99}, new int[] {1, 0, 0, 0});
        values(one(KEEN, 3, 99, 0), new int[] {1, 2, 3, 99}, new int[] {1, 0, 0, 0});
        values(one(KEEN, 5, 1, 0), new int[] {1, 2, 3}, new int[] {3, 0, 0});
    }

    private static void values(FavoursGoOff x, int[] days, int[] values) {
        for (int i = 0; i < days.length; i++) {
            A.due("value(0, " + days[i] + ")", x.value(0, days[i]), values[i]);
        }
    }

    private static void goneOnesHaveNoValue() {
        A.sentence("VALUE on a DAY (0, if it is GONE)");
        for (int kind = 0; kind < 5; kind++) {
            FavoursGoOff x = new FavoursGoOff();
            x.favour(kind, 0, 1, 0, 9, kind == UNBORN ? 0 : 90);
            x.image(0);
            A.due("asked for", x.ask(0), 9);
            values(x, new int[] {0, 1, 90, 99}, new int[4]);
            x.from(0);
            x.favour(PLAIN, 0, 1, 0, 1, 90);
            A.due("joined to another one", x.join(1, 0), 10);
            values(x, new int[] {0, 1, 90, 99}, new int[4]);
            x.from(0);
            x.favour(PLAIN, 1, 0, 0, 1, 90);
            A.due("cancelled", x.cancel(), 2);
            values(x, new int[] {0, 1, 90, 99}, new int[4]);
            x.from(0);
            A.due("come home", x.pass(0, 0), kind == HOLY ? -20 : 0);
            values(x, new int[] {0}, new int[] {kind == HOLY ? 9 : 0});
        }
    }

    private static void valueOnAnyDay() {
        A.sentence("value: VALUE of a FAVOUR on a DAY. BAD");
        FavoursGoOff x = one(HOLY, 5, 5, 9);
        A.due("value(0, 0)", x.value(0, 0), 5);
        A.due("value(0, 99)", x.value(0, 99), 14);
        A.due("value(0, -1)", x.value(0, -1), -2);
        A.due("value(0, 100)", x.value(0, 100), -2);
        A.due("value(-1, 0)", x.value(-1, 0), -2);
        A.due("value(1, 0)", x.value(1, 0), -2);
        A.due("BAD", x.status(0), 4);
    }

    private static void whoHasAFavour() {
        A.sentence("of: Who has a FAVOUR. NONE: it is GONE. BAD");
        FavoursGoOff x = new FavoursGoOff();
        x.people(6);
        x.favour(PLAIN, 5, 0, 0, 5, 0);
        x.favour(PLAIN, 0, 5, 0, 5, 0);
        x.favour(UNBORN, 0, 5, 0, 5, 99);
        A.due("the least has it", x.of(0), 0);
        A.due("the greatest has it", x.of(1), 5);
        A.due("one of VALUE 0", x.of(2), 5);
        A.due("of(3)", x.of(3), -2);
        A.due("of(-1)", x.of(-1), -2);
        x.pass(1, 0);
        A.due("who owes it gets it home", x.of(1), -1);
        x.night();
        A.due("one that went off is not GONE", x.of(0), 0);
        A.due("NONE is no refused one", x.status(0) + x.status(1) + x.status(2), 2);
    }
}
