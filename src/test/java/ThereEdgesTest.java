/** Promises 33 to 38 and their Terms, sentence by sentence. */
public final class ThereEdgesTest {
    private static final Answers A = new Answers();

    public static void main(String[] args) {
        fractionAtFirst();
        fractionInLowestTerms();
        imagesZeroAndOne();
        imagesKeepTheStreet();
        imagesKeepWhatMayBeUndone();
        imagesKeepNotTheRest();
        imagesAreKeptAnew();
        fromGoesOnFromOne();
        statusOfEachReason();
        statusOfWhatIsTold();
        statusOfAnotherWhat();
        countOfNone();
        countOfAsManyAsThereMayBe();
        countBad();
        digestOfANewOne();
        digestOfAFullOne();
        A.end("ThereEdgesTest");
    }

    private static void fractionAtFirst() {
        A.sentence("THE FRACTION is 0 by 1 at first; part: above (0), below (1). BAD");
        FavoursGoOff x = new FavoursGoOff();
        A.due("part(-1)", x.part(-1), -2);
        A.due("part(0)", x.part(0), 0);
        A.due("part(1)", x.part(1), 1);
        A.due("part(2)", x.part(2), -2);
        A.due("BAD", x.status(0), 2);
        x.kept(11, 0);
        A.due("behind a refused kept", x.part(0) * 10 + x.part(1), 1);
    }

    private static void fractionInLowestTerms() {
        A.sentence("lowest terms, below above 0");
        FavoursGoOff x = new FavoursGoOff();
        x.favour(0, 0, 1, 0, 1, 99);
        x.need(1, 0, 1, 0);
        int[][] of = {{0, 0, 1}, {1, 1, 10}, {2, 1, 5}, {3, 3, 10}, {4, 2, 5}, {5, 1, 2}, {6, 3, 5}, {7, 7, 10}, {8, 4, 5}, {9, 9, 10}, {10, 1, 1}};
        for (int[] f : of) {
            x.kept(f[0], 1);
            A.due("above of " + f[0] + " of 10", x.part(0), f[1]);
            A.due("below of " + f[0] + " of 10", x.part(1), f[2]);
        }
    }

    private static void imagesZeroAndOne() {
        A.sentence("IMAGES 0, 1; image: 1. BAD; from: 1. BAD; NO: none was kept");
        FavoursGoOff x = new FavoursGoOff();
        A.due("from(-1)", x.from(-1), -2);
        A.due("from(2)", x.from(2), -2);
        A.due("from(0)", x.from(0), -3);
        A.due("from(1)", x.from(1), -3);
        A.due("image(-1)", x.image(-1), -2);
        A.due("image(2)", x.image(2), -2);
        A.due("image(0)", x.image(0), 1);
        A.due("from(0), kept", x.from(0), 1);
        A.due("from(1), none kept yet", x.from(1), -3);
        A.due("image(1)", x.image(1), 1);
        A.due("from(1), kept", x.from(1), 1);
        A.due("from(0), still kept", x.from(0), 1);
        A.due("BAD", x.status(0), 4);
        A.due("NO", x.status(1), 3);
    }

    private static void imagesKeepTheStreet() {
        A.sentence("IMAGES keep all");
        FavoursGoOff x = new FavoursGoOff();
        x.people(6);
        x.strong(5, 99);
        x.favour(0, 0, 1, 0, 5, 99);
        x.favour(0, 0, 1, 0, 6, 99);
        x.need(1, 0, 6, 99);
        x.told(0, 1, 2);
        x.set(3, 1);
        x.night();
        x.ask(0);
        x.image(0);
        long h = x.digest();
        x.people(2);
        x.set(3, 99);
        x.image(1);
        A.due("from(0)", x.from(0), 1);
        A.due("digest", x.digest(), h);
        A.due("PEOPLE", x.count(0) * 100 + x.strong(5, 99), 699);
        A.due("FAVOURS", x.of(0) * 10 + x.of(1), -9);
        A.due("NEEDS", x.plan(0), 1);
        A.due("PASSES told", x.forged(), 0);
        A.due("RATES", x.rate(3, 0), 1);
        A.due("the DAY", x.count(4), 1);
        x.strong(0, 10);
        A.due("what one did this DAY", x.ask(1), -3);
        x.strong(0, 11);
        A.due("and no more", x.ask(1), 6);
        A.due("from(1)", x.from(1) * 100 + x.count(0) * 10 + x.count(1), 120);
        A.due("its RATES", x.rate(3, 0), 99);
    }

    private static void imagesKeepWhatMayBeUndone() {
        A.sentence("what may be undone they keep");
        FavoursGoOff x = new FavoursGoOff();
        x.image(1);
        for (int i = 1; i <= 3; i++) {
            x.strong(0, i);
            x.night();
        }
        x.strong(0, 4);
        x.image(0);
        x.undo();
        x.undo();
        Answers.nights(x, 9);
        x.people(4);
        A.due("from(1), none", x.from(1) * 10 + x.count(5), 10);
        A.due("undo", x.undo(), -3);
        A.due("from(0), two", x.from(0) * 10 + x.count(5), 12);
        A.due("the first", x.undo() * 100 + x.count(4) * 10 + x.strong(0, 9), 123);
        A.due("the second", x.undo() * 100 + x.count(4) * 10 + x.strong(0, 9), 112);
        A.due("no third", x.undo(), -3);
        A.due("the IMAGE has them still", x.from(0) * 10 + x.count(5), 12);
        A.due("as they were", x.undo() * 10 + x.strong(0, 9), 13);
        A.due("both", x.undo() * 10 + x.strong(0, 9), 12);
        x.from(0);
        x.night();
        A.due("a NIGHT behind it", x.undo() * 100 + x.count(4) * 10 + x.strong(0, 9), 134);
        A.due("and the kept one ahead of it", x.undo() * 100 + x.count(4) * 10 + x.strong(0, 9), 123);
    }

    private static void imagesKeepNotTheRest() {
        A.sentence("all but them (IMAGES), THE TEXT, THE FRACTION and STATUS");
        FavoursGoOff x = new FavoursGoOff();
        x.image(0);
        x.image(1);
        x.strong(0, 7);
        x.image(1);
        x.type('x', 1);
        x.kept(0, 0);
        x.people(1);
        x.undo();
        x.type(32, 8);
        A.due("from(0)", x.from(0), 1);
        A.due("THE TEXT", x.count(6), 9);
        A.due("THE FRACTION", x.part(0), 1);
        A.due("STATUS: BAD", x.status(0), 1);
        A.due("STATUS: NO", x.status(1), 1);
        A.due("STATUS: FULL", x.status(2), 0);
        A.due("the other IMAGE", x.from(1) * 10 + x.strong(0, 7), 17);
        x.clear();
        x.kept(0, 1);
        A.due("back from(0)", x.from(0) * 100 + x.strong(0, 20), 120);
        A.due("THE TEXT, empty", x.count(6), 0);
        A.due("THE FRACTION, anew", x.part(0), 0);
    }

    private static void imagesAreKeptAnew() {
        A.sentence("image: An IMAGE is kept");
        FavoursGoOff x = new FavoursGoOff();
        x.strong(0, 1);
        x.image(0);
        x.strong(0, 2);
        x.image(1);
        x.strong(0, 3);
        A.due("from(0)", x.from(0) * 10 + x.strong(0, 3), 11);
        x.image(0);
        A.due("from(1)", x.from(1) * 10 + x.strong(0, 9), 12);
        A.due("from(0), the newest", x.from(0) * 10 + x.strong(0, 9), 13);
        A.due("behind people() too", x.people(2), 4);
        A.due("from(0) again", x.from(0) * 10 + x.strong(0, 9), 13);
        A.due("behind read() too", Answers.readText(x, "people 2;"), 1);
        A.due("from(0) once more", x.from(0) * 10 + x.count(0), 14);
    }

    private static void fromGoesOnFromOne() {
        A.sentence("from: It goes on from an IMAGE");
        FavoursGoOff x = new FavoursGoOff();
        x.favour(0, 0, 1, 0, 5, 99);
        x.image(0);
        for (int i = 0; i < 3; i++) {
            A.due("from(0)", x.from(0), 1);
            A.due("its FAVOUR", x.of(0), 1);
            A.due("asked for", x.ask(0), 5);
            A.due("GONE", x.of(0), -1);
            A.due("the next one", x.favour(0, 0, 1, 0, 5, 99), 1);
            A.due("the next DAY", x.night(), 1);
        }
    }

    private static void statusOfEachReason() {
        A.sentence("STATUS: how many calls were refused as BAD, NO, FULL");
        FavoursGoOff x = new FavoursGoOff();
        for (int what = 0; what < 3; what++) {
            A.due("status(" + what + ") at first", x.status(what), 0);
        }
        x.people(7);
        A.due("BAD", x.status(0) * 100 + x.status(1) * 10 + x.status(2), 100);
        x.undo();
        A.due("NO", x.status(0) * 100 + x.status(1) * 10 + x.status(2), 110);
        for (int n = 0; n < 6; n++) {
            x.need(0, 0, 1, 0);
        }
        A.due("FULL", x.status(0) * 100 + x.status(1) * 10 + x.status(2), 111);
        for (int i = 0; i < 300; i++) {
            x.of(-1);
        }
        A.due("three hundred more", x.status(0), 301);
    }

    private static void statusOfWhatIsTold() {
        A.sentence("each answer told so below is such a one (where others are told they count as these)");
        FavoursGoOff x = new FavoursGoOff();
        x.favour(2, 0, 1, 0, 5, 99);
        A.due("-10 of pass", x.pass(0, 1) * 100 + x.status(0), -999);
        A.due("-20 of pass", x.pass(0, 2) * 100 + x.status(1), -1999);
        A.due("-1000 of owes", x.owes(0, 0) * 100 + x.status(0), -99998);
        A.due("-10 of ring", x.ring(-2) * 100 + x.status(0), -997);
        A.due("-10000 of net", x.net(4) * 100 + x.status(0), -999996);
        A.due("-1 of status", x.status(3) * 100 + x.status(0), -95);
        A.due("-5 of ring is none", x.ring(0), -5);
        A.due("NONE of of, plan, settles and forged is none", x.forged(), -1);
        A.due("BAD", x.status(0), 5);
        A.due("NO", x.status(1), 1);
        A.due("FULL", x.status(2), 0);
    }

    private static void statusOfAnotherWhat() {
        A.sentence("status: -1: another what (counts as BAD)");
        FavoursGoOff x = new FavoursGoOff();
        A.due("status(-1)", x.status(-1), -1);
        A.due("status(3)", x.status(3), -1);
        A.due("status(LOW)", x.status(Answers.LOW), -1);
        A.due("status(HIGH)", x.status(Answers.HIGH), -1);
        A.due("BAD", x.status(0), 4);
        A.due("NO", x.status(1), 0);
        A.due("FULL", x.status(2), 0);
    }

    private static void countOfNone() {
        A.sentence("count: How many: 0 PEOPLE .. 6 bytes of THE TEXT");
        FavoursGoOff x = new FavoursGoOff();
        int[] counts = {2, 0, 0, 0, 0, 0, 0};
        x.people(2);
        for (int what = 0; what < 7; what++) {
            A.due("count(" + what + ")", x.count(what), counts[what]);
        }
    }

    private static void countOfAsManyAsThereMayBe() {
        A.sentence("count: as many as there may be");
        FavoursGoOff x = new FavoursGoOff();
        x.people(6);
        for (int i = 0; i < 13; i++) {
            x.favour(0, 0, 1, 0, 1, 99);
            x.need(0, 0, 1, 99);
            x.told(0, 1, 2);
        }
        Answers.append(x, " ".repeat(250));
        x.type(32, 1);
        Answers.nights(x, 100);
        int[] counts = {6, 12, 5, 12, 99, 2, 250};
        for (int what = 0; what < 7; what++) {
            A.due("count(" + what + ")", x.count(what), counts[what]);
        }
        A.due("FULL", x.status(2), 1 + 8 + 1 + 1);
    }

    private static void countBad() {
        A.sentence("count: BAD");
        FavoursGoOff x = new FavoursGoOff();
        A.due("count(-1)", x.count(-1), -2);
        A.due("count(7)", x.count(7), -2);
        A.due("BAD", x.status(0), 2);
    }

    private static long mixed(long... all) {
        long h = 683;
        for (long v : all) {
            h = 31 * h + v;
        }
        return h;
    }

    private static void digestOfANewOne() {
        A.sentence("digest: h = 683; then h = 31 h + v for each v");
        FavoursGoOff x = new FavoursGoOff();
        A.due("new", x.digest(), mixed(4, 0, 0, 0, 0, 0, 0, 20, 0, 20, 0, 20, 0, 20, 0, 10, 10, 10, 10, 0, 1));
        x.people(2);
        A.due("of two", x.digest(), mixed(2, 0, 0, 0, 0, 0, 0, 20, 0, 20, 0, 10, 10, 10, 10, 0, 1));
        x.type(1, 1);
        A.due("of THE TEXT how many bytes", x.digest(), mixed(2, 0, 0, 0, 0, 0, 1, 20, 0, 20, 0, 10, 10, 10, 10, 0, 1));
        x.people(1);
        x.image(0);
        A.due("of STATUS and IMAGES nothing", x.digest(), mixed(2, 0, 0, 0, 0, 0, 1, 20, 0, 20, 0, 10, 10, 10, 10, 0, 1));
    }

    private static void digestOfAFullOne() {
        A.sentence("digest: .. of FAVOURS KIND, BY, OF (NONE: GONE), THING, WORTH, TILL, MADE; of NEEDS ..; of PASSES told ..");
        FavoursGoOff x = new FavoursGoOff();
        x.people(3);
        x.favour(4, 0, 2, 3, 40, 99);
        x.favour(0, 0, 1, 2, 20, 99);
        x.night();
        x.favour(1, 1, 0, 1, 30, 98);
        x.ask(1);
        x.join(1, 2);
        x.strong(2, 99);
        x.need(2, 3, 40, 99);
        x.need(0, 1, 1, 1);
        x.told(2, 0, 2);
        x.told(1, 1, 0);
        x.set(0, 1);
        x.set(3, 99);
        x.kept(3, 1);
        A.due("full", x.digest(), mixed(3, 3, 2, 2, 1, 1, 0, 20, 20, 20, 0, 99, 0,
            4, 0, 2, 3, 40, 99, 0, 0, 0, -1, 2, 20, 99, 0, 1, 1, 0, 1, 30, 98, 1,
            2, 3, 40, 99, 0, 1, 1, 1, 2, 0, 2, 1, 1, 0, 1, 10, 10, 99, 0, 1));
        x.strong(1, 30);
        x.kept(3, 1);
        A.due("with THE FRACTION", x.digest(), mixed(3, 3, 2, 2, 1, 1, 0, 20, 20, 30, 0, 99, 0,
            4, 0, 2, 3, 40, 99, 0, 0, 0, -1, 2, 20, 99, 0, 1, 1, 0, 1, 30, 98, 1,
            2, 3, 40, 99, 0, 1, 1, 1, 2, 0, 2, 1, 1, 0, 1, 10, 10, 99, 3, 10));
    }
}
