/** Promises 12 to 16 and their Terms, sentence by sentence. */
public final class DeedsEdgesTest {
    private static final Answers A = new Answers();
    private static final int PLAIN = 0, FADING = 1, HOLY = 2, UNBORN = 3, KEEN = 4;

    public static void main(String[] args) {
        passGoesToAnother();
        passComesHome();
        passOfValueOneAndNone();
        passOfAHolyOne();
        passToWhoHasIt();
        passOfAGoneOne();
        passRefusedAsTheFirst();
        joinHasTheWorthOfBoth();
        joinFortyAtMost();
        joinTheLesserTill();
        joinOfLikeOnes();
        joinOfValueOneAndNone();
        joinKeepsTheFirst();
        joinOfGoneOnes();
        askNoMoreThanStrength();
        askWhatHeDidThisDay();
        askOfValueOneAndNone();
        askIsItsValue();
        askRefusedAsTheFirst();
        nightToTheLastDay();
        nightNobodyDidAnything();
        undoTwoAtMost();
        undoAllThatANightHas();
        undoNoneBehindPeople();
        undoNoneBehindRead();
        undoOfTheLastDay();
        A.end("DeedsEdgesTest");
    }

    private static FavoursGoOff street(int people) {
        FavoursGoOff x = new FavoursGoOff();
        x.people(people);
        return x;
    }

    private static void passGoesToAnother() {
        A.sentence("PASS: a FAVOUR goes to another one");
        FavoursGoOff x = street(6);
        x.favour(PLAIN, 3, 0, 2, 7, 9);
        A.due("pass(0, 5)", x.pass(0, 5), 1);
        A.due("of(0)", x.of(0), 5);
        A.due("the first does not have it", x.owes(3, 0), 0);
        A.due("the other does", x.owes(3, 5), 7);
        A.due("pass(0, 6)", x.pass(0, 6), -10);
        A.due("pass(0, 0)", x.pass(0, 0), 1);
        A.due("pass(0, -1)", x.pass(0, -1), -10);
        A.due("of(0) behind the refused ones", x.of(0), 0);
        A.due("its VALUE stays", x.value(0, 9) * 100 + x.value(0, 10), 700);
    }

    private static void passComesHome() {
        A.sentence("to who owes it: it comes home (1; 0: it came home)");
        FavoursGoOff x = street(2);
        x.favour(PLAIN, 1, 0, 0, 1, 0);
        A.due("pass(0, 1)", x.pass(0, 1), 0);
        A.due("it is GONE", x.of(0), -1);
        A.due("of VALUE 0", x.value(0, 0), 0);
        A.due("and none is OWED", x.owes(1, 0), 0);
        A.due("count(1)", x.count(1), 1);
        x.favour(PLAIN, 0, 1, 0, 1, 0);
        A.due("to the least", x.pass(1, 0), 0);
        A.due("nothing is refused", x.status(0) + x.status(1), 0);
    }

    private static void passOfValueOneAndNone() {
        A.sentence("PASS (Not one of VALUE 0 now ..)");
        FavoursGoOff x = new FavoursGoOff();
        x.favour(PLAIN, 0, 1, 0, 1, 1);
        x.favour(FADING, 0, 1, 0, 2, 9);
        x.favour(UNBORN, 0, 1, 0, 1, 1);
        x.favour(KEEN, 0, 1, 0, 3, 9);
        A.due("UNBORN ahead of TILL", x.pass(2, 2), -20);
        A.due("and not home", x.pass(2, 0), -20);
        x.night();
        A.due("UNBORN of VALUE 1", x.pass(2, 2), 1);
        A.due("PLAIN at its TILL", x.pass(0, 2), 1);
        A.due("FADING of VALUE 1", x.pass(1, 2), 1);
        A.due("KEEN of VALUE 1", x.pass(3, 2), 1);
        x.night();
        A.due("PLAIN behind its TILL", x.pass(0, 3), -20);
        A.due("PLAIN behind its TILL, home", x.pass(0, 0), -20);
        A.due("FADING of VALUE 0", x.pass(1, 3), -20);
        A.due("KEEN of VALUE 0", x.pass(3, 3), -20);
        A.due("they stay where they are", x.of(0) * 100 + x.of(1) * 10 + x.of(3), 222);
        A.due("NO", x.status(1), 6);
    }

    private static void passOfAHolyOne() {
        A.sentence("PASS (.. nor HOLY)");
        FavoursGoOff x = new FavoursGoOff();
        x.favour(HOLY, 0, 1, 0, 1, 50);
        A.due("to another", x.pass(0, 2), -20);
        A.due("home", x.pass(0, 0), -20);
        A.due("to who has it", x.pass(0, 1), -10);
        x.favour(PLAIN, 0, 1, 0, 1, 50);
        A.due("joined into a PLAIN one", x.join(1, 0), 2);
        A.due("that one can be passed", x.pass(1, 2), 1);
    }

    private static void passToWhoHasIt() {
        A.sentence("pass: BAD: -10: who has it already, too");
        FavoursGoOff x = new FavoursGoOff();
        x.favour(PLAIN, 0, 1, 0, 5, 0);
        A.due("who has it", x.pass(0, 1), -10);
        x.pass(0, 3);
        A.due("who has it then", x.pass(0, 3), -10);
        A.due("who had it", x.pass(0, 1), 1);
        x.night();
        A.due("who has it, of VALUE 0, too", x.pass(0, 1), -10);
        A.due("BAD", x.status(0), 3);
        A.due("NO", x.status(1), 0);
    }

    private static void passOfAGoneOne() {
        A.sentence("pass: NO: -20: GONE, too");
        FavoursGoOff x = new FavoursGoOff();
        for (int f = 0; f < 4; f++) {
            x.favour(PLAIN, 0, 1, 0, 5, 9);
        }
        x.ask(0);
        x.join(1, 2);
        x.pass(3, 0);
        for (int f : new int[] {0, 2, 3}) {
            for (int to = 0; to < 4; to++) {
                A.due("pass(" + f + ", " + to + ")", x.pass(f, to), -20);
            }
            A.due("it stays GONE", x.of(f), -1);
        }
        A.due("NO", x.status(1), 12);
    }

    private static void passRefusedAsTheFirst() {
        A.sentence("pass: the first of: BAD -10; NO -20");
        FavoursGoOff x = new FavoursGoOff();
        x.favour(HOLY, 0, 1, 0, 5, 9);
        x.favour(PLAIN, 0, 1, 0, 5, 9);
        x.ask(1);
        A.due("HOLY, to nobody", x.pass(0, 4), -10);
        A.due("GONE, to nobody", x.pass(1, -1), -10);
        A.due("no FAVOUR, to nobody", x.pass(2, -1), -10);
        A.due("BAD", x.status(0), 3);
        A.due("NO", x.status(1), 0);
    }

    private static void joinHasTheWorthOfBoth() {
        A.sentence("JOIN: the first has the WORTH of both; the second is GONE");
        FavoursGoOff x = new FavoursGoOff();
        x.favour(PLAIN, 0, 1, 0, 1, 9);
        x.favour(PLAIN, 0, 1, 0, 1, 9);
        x.favour(FADING, 0, 1, 0, 9, 9);
        A.due("join(1, 0)", x.join(1, 0), 2);
        A.due("the first", x.value(1, 0), 2);
        A.due("the second", x.of(0), -1);
        x.night();
        A.due("WORTH of a FADING one, not its VALUE", x.join(1, 2), 11);
        A.due("count(1)", x.count(1), 3);
    }

    private static void joinFortyAtMost() {
        A.sentence("JOIN (40 at most)");
        int[][] worths = {{20, 19, 39}, {20, 20, 40}, {20, 21, 40}, {40, 1, 40}, {1, 40, 40}, {40, 40, 40}, {39, 1, 40}};
        for (int[] w : worths) {
            FavoursGoOff x = new FavoursGoOff();
            x.favour(PLAIN, 0, 1, 0, w[0], 9);
            x.favour(PLAIN, 0, 1, 0, w[1], 9);
            A.due("of " + w[0] + " and " + w[1], x.join(0, 1), w[2]);
            A.due("its VALUE", x.value(0, 9), w[2]);
        }
        FavoursGoOff x = new FavoursGoOff();
        x.favour(HOLY, 0, 1, 0, 30, 0);
        x.favour(HOLY, 0, 1, 0, 30, 0);
        Answers.nights(x, 20);
        A.due("the WORTH is 40 at most", x.join(0, 1), 40);
        A.due("a HOLY one's VALUE may be more", x.value(0, 20), 42);
    }

    private static void joinTheLesserTill() {
        A.sentence("JOIN: the lesser TILL");
        int[][] tills = {{5, 6, 5}, {6, 5, 5}, {5, 5, 5}, {0, 99, 0}, {99, 0, 0}};
        for (int[] t : tills) {
            FavoursGoOff x = new FavoursGoOff();
            x.favour(PLAIN, 0, 1, 0, 3, t[0]);
            x.favour(PLAIN, 0, 1, 0, 4, t[1]);
            x.join(0, 1);
            A.due("of " + t[0] + " and " + t[1] + ": at it", x.value(0, t[2]), 7);
            A.due("of " + t[0] + " and " + t[1] + ": behind it", x.value(0, t[2] + 1), 0);
        }
        FavoursGoOff x = new FavoursGoOff();
        x.favour(UNBORN, 0, 1, 0, 3, 0);
        x.favour(PLAIN, 0, 1, 0, 4, 90);
        A.due("an UNBORN first one's is the lesser", x.join(0, 1), 7);
        A.due("and its VALUE stays", x.value(0, 99), 7);
    }

    private static void joinOfLikeOnes() {
        A.sentence("JOIN: two FAVOURS of like BY, OF, THING; BAD: alike, too");
        FavoursGoOff x = street(3);
        x.favour(PLAIN, 0, 1, 0, 3, 9);
        x.favour(PLAIN, 2, 1, 0, 3, 9);
        x.favour(PLAIN, 0, 2, 0, 3, 9);
        x.favour(PLAIN, 0, 1, 3, 3, 9);
        x.favour(PLAIN, 1, 0, 0, 3, 9);
        for (int g = 1; g < 5; g++) {
            A.due("join(0, " + g + ")", x.join(0, g), -3);
            A.due("join(" + g + ", 0)", x.join(g, 0), -3);
        }
        A.due("alike", x.join(0, 0), -2);
        A.due("join(0, 5)", x.join(0, 5), -2);
        A.due("join(5, 0)", x.join(5, 0), -2);
        A.due("join(0, -1)", x.join(0, -1), -2);
        x.pass(2, 1);
        A.due("of like ones behind a pass", x.join(0, 2), 6);
        A.due("NO", x.status(1), 8);
        A.due("BAD", x.status(0), 4);
    }

    private static void joinOfValueOneAndNone() {
        A.sentence("JOIN (Both of VALUE above 0 now)");
        FavoursGoOff x = new FavoursGoOff();
        x.favour(FADING, 0, 1, 0, 2, 9);
        x.favour(UNBORN, 0, 1, 0, 1, 1);
        x.favour(PLAIN, 0, 1, 0, 1, 1);
        A.due("the second ahead of its TILL", x.join(0, 1), -3);
        A.due("the first ahead of its TILL", x.join(1, 0), -3);
        A.due("both stay", x.of(0) + x.of(1), 2);
        x.image(0);
        x.night();
        A.due("of VALUE 1 each", x.join(0, 1), 3);
        x.from(0);
        Answers.nights(x, 2);
        A.due("the first of VALUE 0, FADING", x.join(0, 1), -3);
        A.due("the second of VALUE 0, FADING", x.join(1, 0), -3);
        A.due("the second behind its TILL", x.join(1, 2), -3);
        A.due("the first behind its TILL", x.join(2, 1), -3);
        A.due("NO", x.status(1), 6);
    }

    private static void joinKeepsTheFirst() {
        A.sentence("JOIN: the first (its KIND, its MADE)");
        FavoursGoOff x = new FavoursGoOff();
        x.favour(KEEN, 0, 1, 0, 20, 50);
        x.night();
        x.favour(HOLY, 0, 1, 0, 10, 50);
        x.image(0);
        A.due("a HOLY one into a KEEN one", x.join(0, 1), 30);
        A.due("KEEN, MADE on DAY 0", x.value(0, 2), 26);
        x.from(0);
        A.due("a KEEN one into a HOLY one", x.join(1, 0), 30);
        A.due("HOLY", x.value(1, 60), 31);
    }

    private static void joinOfGoneOnes() {
        A.sentence("join: NO: GONE");
        FavoursGoOff x = new FavoursGoOff();
        for (int f = 0; f < 4; f++) {
            x.favour(PLAIN, 0, 1, 0, 5, 9);
        }
        x.ask(0);
        x.pass(1, 0);
        A.due("the second asked for", x.join(2, 0), -3);
        A.due("the first asked for", x.join(0, 2), -3);
        A.due("the second come home", x.join(2, 1), -3);
        A.due("both GONE", x.join(0, 1), -3);
        A.due("a GONE one and itself: BAD first", x.join(0, 0), -2);
        A.due("join", x.join(3, 2), 10);
        A.due("the second joined already", x.join(3, 2), -3);
        A.due("the WORTH stays", x.value(3, 0), 10);
    }

    private static void askNoMoreThanStrength() {
        A.sentence("ASK: BY does it now, if what he did this DAY and its VALUE are no more than his STRENGTH");
        FavoursGoOff x = new FavoursGoOff();
        x.favour(PLAIN, 0, 1, 0, 20, 9);
        x.favour(PLAIN, 0, 1, 0, 1, 9);
        x.strong(0, 19);
        A.due("20 of 19", x.ask(0), -3);
        A.due("it stays", x.of(0), 1);
        x.strong(0, 20);
        A.due("20 of 20", x.ask(0), 20);
        A.due("it is GONE", x.of(0), -1);
        A.due("1 more", x.ask(1), -3);
        x.strong(0, 21);
        A.due("1 more of 21", x.ask(1), 1);
        x.favour(PLAIN, 1, 0, 0, 1, 9);
        x.strong(1, 0);
        A.due("1 of 0", x.ask(2), -3);
        x.strong(1, 1);
        A.due("1 of 1", x.ask(2), 1);
        x.favour(HOLY, 2, 0, 0, 40, 0);
        Answers.nights(x, 99);
        x.strong(2, 48);
        A.due("49 of 48", x.ask(3), -3);
        x.strong(2, 99);
        A.due("49 of 99", x.ask(3), 49);
    }

    private static void askWhatHeDidThisDay() {
        A.sentence("ASK: what he did this DAY");
        FavoursGoOff x = new FavoursGoOff();
        for (int f = 0; f < 6; f++) {
            x.favour(PLAIN, f == 5 ? 1 : 0, 2, 0, 10, 9);
        }
        A.due("10", x.ask(0), 10);
        A.due("20", x.ask(1), 10);
        A.due("30", x.ask(2), -3);
        A.due("another one's are his own", x.ask(5), 10);
        x.strong(0, 5);
        A.due("weaker than what he did", x.ask(2), -3);
        x.strong(0, 29);
        A.due("30 of 29", x.ask(2), -3);
        x.strong(0, 30);
        A.due("30 of 30", x.ask(2), 10);
        x.strong(0, 10);
        x.night();
        A.due("nothing yet in the next DAY", x.ask(3), 10);
        A.due("and no more", x.ask(4), -3);
        A.due("NO", x.status(1), 4);
    }

    private static void askOfValueOneAndNone() {
        A.sentence("ask: NO: of VALUE 0, GONE");
        FavoursGoOff x = new FavoursGoOff();
        x.favour(UNBORN, 0, 1, 0, 1, 1);
        x.favour(FADING, 0, 1, 0, 2, 9);
        x.favour(PLAIN, 0, 1, 0, 1, 0);
        A.due("ahead of its TILL", x.ask(0), -3);
        x.night();
        A.due("behind its TILL", x.ask(2), -3);
        A.due("of VALUE 1 at its TILL", x.ask(0), 1);
        A.due("GONE", x.ask(0), -3);
        A.due("FADING to 1", x.ask(1), 1);
        x.favour(KEEN, 0, 1, 0, 2, 9);
        x.night();
        A.due("KEEN to 0", x.ask(3), -3);
        x.favour(PLAIN, 0, 1, 0, 1, 9);
        x.pass(4, 0);
        A.due("come home", x.ask(4), -3);
        A.due("NO", x.status(1), 5);
    }

    private static void askIsItsValue() {
        A.sentence("ask: its VALUE");
        FavoursGoOff x = new FavoursGoOff();
        x.favour(FADING, 0, 1, 0, 21, 9);
        x.favour(PLAIN, 0, 1, 0, 1, 9);
        A.due("21 of 20", x.ask(0), -3);
        x.night();
        A.due("20 of 20", x.ask(0), 20);
        A.due("and 20 is what he did", x.ask(1), -3);
    }

    private static void askRefusedAsTheFirst() {
        A.sentence("ask: BAD");
        FavoursGoOff x = new FavoursGoOff();
        A.due("ask(0) of none", x.ask(0), -2);
        x.favour(PLAIN, 0, 1, 0, 1, 9);
        A.due("ask(-1)", x.ask(-1), -2);
        A.due("ask(1)", x.ask(1), -2);
        A.due("ask(0)", x.ask(0), 1);
        A.due("BAD", x.status(0), 3);
        A.due("NO", x.status(1), 0);
    }

    private static void nightToTheLastDay() {
        A.sentence("NIGHT: the next DAY. NO: it is DAY 99");
        FavoursGoOff x = new FavoursGoOff();
        A.due("the first", x.night(), 1);
        Answers.nights(x, 96);
        A.due("the 98th", x.night(), 98);
        A.due("the 99th", x.night(), 99);
        A.due("no 100th", x.night(), -3);
        A.due("and none again", x.night(), -3);
        A.due("NO", x.status(1), 2);
        A.due("count(4)", x.count(4), 99);
        A.due("count(5)", x.count(5), 2);
        x.undo();
        A.due("the 99th anew", x.night(), 99);
    }

    private static void nightNobodyDidAnything() {
        A.sentence("NIGHT: nobody did anything in it");
        FavoursGoOff x = street(6);
        for (int f = 0; f < 12; f++) {
            x.favour(PLAIN, f % 6, (f + 1) % 6, 0, 20, 99);
        }
        for (int f = 0; f < 6; f++) {
            A.due("ask(" + f + ")", x.ask(f), 20);
        }
        A.due("tired", x.ask(6), -3);
        Answers.nights(x, 1);
        for (int f = 6; f < 12; f++) {
            A.due("ask(" + f + ")", x.ask(f), 20);
        }
    }

    private static void undoTwoAtMost() {
        A.sentence("UNDO: .. as they were ahead of the last NIGHT (2 at most)");
        FavoursGoOff x = new FavoursGoOff();
        A.due("none", x.undo(), -3);
        for (int i = 1; i <= 3; i++) {
            x.strong(0, i);
            x.night();
            A.due("count(5) behind " + i, x.count(5), i < 3 ? i : 2);
        }
        A.due("the last", x.undo() * 100 + x.count(4) * 10 + x.count(5), 121);
        A.due("its STRENGTH", x.strong(0, 3), 3);
        A.due("the one ahead of it", x.undo() * 100 + x.count(4) * 10 + x.count(5), 110);
        A.due("its STRENGTH", x.strong(0, 2), 2);
        A.due("a third", x.undo(), -3);
        A.due("changes nothing", x.count(4) * 100 + x.strong(0, 2), 102);
        A.due("NO", x.status(1), 2);
        x.night();
        A.due("one more may be", x.undo() * 100 + x.count(4), 101);
        A.due("and no more", x.undo(), -3);
    }

    private static void undoAllThatANightHas() {
        A.sentence("UNDO: PEOPLE, FAVOURS, NEEDS, PASSES told, RATES, the DAY");
        FavoursGoOff x = new FavoursGoOff();
        x.favour(PLAIN, 0, 1, 0, 5, 99);
        x.favour(PLAIN, 0, 1, 0, 6, 99);
        x.ask(0);
        x.need(1, 0, 6, 0);
        x.told(1, 1, 2);
        x.set(0, 99);
        long h = x.digest();
        x.night();
        x.strong(3, 99);
        x.pass(1, 3);
        x.favour(PLAIN, 2, 3, 0, 6, 99);
        x.contented();
        x.forget();
        x.set(0, 1);
        A.due("undo", x.undo(), 1);
        A.due("digest", x.digest(), h);
        A.due("STRENGTH", x.strong(3, 20), 20);
        A.due("FAVOURS", x.count(1) * 10 + x.of(1), 21);
        A.due("what was GONE", x.of(0), -1);
        A.due("NEEDS", x.plan(0), 1);
        A.due("PASSES told", x.count(3), 1);
        A.due("RATES", x.rate(0, 0), 99);
        x.strong(0, 10);
        A.due("what he did that DAY", x.ask(1), -3);
        x.strong(0, 11);
        A.due("and no more", x.ask(1), 6);
    }

    private static void undoNoneBehindPeople() {
        A.sentence("UNDO: behind people() none");
        FavoursGoOff x = new FavoursGoOff();
        Answers.nights(x, 2);
        x.people(1);
        A.due("behind a refused one two", x.count(5), 2);
        x.people(4);
        A.due("count(5)", x.count(5), 0);
        A.due("undo", x.undo(), -3);
        x.night();
        A.due("one behind the next NIGHT", x.undo(), 1);
        A.due("and no more", x.undo(), -3);
    }

    private static void undoNoneBehindRead() {
        A.sentence("UNDO: behind read() none");
        FavoursGoOff x = new FavoursGoOff();
        Answers.nights(x, 2);
        Answers.readText(x, "people 2");
        A.due("behind a fault two", x.count(5), 2);
        x.type(';', 1);
        x.read();
        A.due("count(5)", x.count(5), 0);
        A.due("undo", x.undo(), -3);
        x.night();
        A.due("one behind the next NIGHT", x.undo() * 10 + x.count(0), 12);
        A.due("and no more", x.undo(), -3);
    }

    private static void undoOfTheLastDay() {
        A.sentence("UNDO: the DAY as it was ahead of the last NIGHT");
        FavoursGoOff x = new FavoursGoOff();
        Answers.nights(x, 99);
        x.night();
        A.due("a refused NIGHT is none", x.undo() * 100 + x.count(4), 198);
        A.due("and the one ahead of it", x.undo() * 100 + x.count(4), 197);
        A.due("no more", x.undo(), -3);
    }
}
