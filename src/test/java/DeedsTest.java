/** Promises 12 to 16: deeds. */
public final class DeedsTest {
    private static final Answers A = new Answers();
    private static final int LOW = Integer.MIN_VALUE, HIGH = Integer.MAX_VALUE;

    public static void main(String[] args) {
        promise12();
        promise13();
        promise13Values();
        promise14();
        promise15();
        promise16();
        promise16All();
        A.end("DeedsTest");
    }

    private static void promise12() {
        FavoursGoOff x = new FavoursGoOff();
        x.favour(0, 0, 1, 0, 5, 0);
        x.favour(2, 0, 1, 0, 5, 0);
        x.favour(3, 0, 1, 0, 5, 1);
        x.favour(1, 2, 1, 0, 5, 9);
        A.due("pass", x.pass(0, 2), 1);
        A.due("pass: of", x.of(0), 2);
        A.due("pass: its BY stays", x.owes(0, 2), 5);
        A.due("pass to who has it", x.pass(0, 2), -10);
        A.due("pass, no person", x.pass(0, 4), -10);
        A.due("pass, NONE", x.pass(0, -1), -10);
        A.due("pass, no favour", x.pass(4, 0), -10);
        A.due("pass, no favour below", x.pass(-1, 0), -10);
        A.due("pass, far off", x.pass(HIGH, LOW), -10);
        A.due("a HOLY one to who has it", x.pass(1, 1), -10);
        A.due("pass: BAD", x.status(0), 7);
        A.due("pass, HOLY", x.pass(1, 2), -20);
        A.due("HOLY does not come home", x.pass(1, 0), -20);
        A.due("pass, UNBORN ahead of TILL", x.pass(2, 2), -20);
        A.due("home", x.pass(0, 0), 0);
        A.due("home: of", x.of(0), -1);
        A.due("pass, GONE", x.pass(0, 1), -20);
        A.due("pass, GONE, to who had it", x.pass(0, 2), -20);
        A.due("pass, GONE, no person", x.pass(0, -1), -10);
        A.due("pass: NO", x.status(1), 5);
        x.night();
        A.due("UNBORN at TILL", x.pass(2, 3), 1);
        A.due("another's comes home to him alone", x.pass(3, 0), 1);
        A.due("and home", x.pass(3, 2), 0);
        x.favour(0, 0, 1, 0, 5, 0);
        A.due("pass, gone off", x.pass(4, 2), -20);
    }

    private static void promise13() {
        FavoursGoOff x = new FavoursGoOff();
        x.favour(0, 0, 1, 0, 5, 7);
        x.favour(2, 0, 1, 0, 6, 3);
        x.favour(0, 0, 1, 1, 5, 9);
        x.favour(0, 0, 2, 0, 5, 9);
        x.favour(0, 2, 1, 0, 5, 9);
        x.favour(3, 0, 1, 0, 5, 1);
        A.due("join alike", x.join(0, 0), -2);
        A.due("join, no favour", x.join(0, 6), -2);
        A.due("join, no favour first", x.join(-1, 0), -2);
        A.due("join, far off", x.join(LOW, HIGH), -2);
        A.due("join, alike and none", x.join(7, 7), -2);
        A.due("join: BAD", x.status(0), 5);
        A.due("join, another THING", x.join(0, 2), -3);
        A.due("join, another OF", x.join(0, 3), -3);
        A.due("join, another BY", x.join(0, 4), -3);
        A.due("join, second of VALUE 0", x.join(0, 5), -3);
        A.due("join, first of VALUE 0", x.join(5, 0), -3);
        A.due("join: NO", x.status(1), 5);
        A.due("join", x.join(0, 1), 11);
        A.due("join: the lesser TILL", x.value(0, 3), 11);
        A.due("join: behind it", x.value(0, 4), 0);
        A.due("join: the second is GONE", x.of(1), -1);
        A.due("join, second GONE", x.join(0, 1), -3);
        A.due("join, first GONE", x.join(1, 0), -3);
        A.due("join: no more of them", x.count(1), 6);
    }

    private static void promise13Values() {
        FavoursGoOff x = new FavoursGoOff();
        x.favour(2, 0, 1, 0, 6, 3);
        x.favour(0, 0, 1, 0, 5, 7);
        A.due("HOLY first", x.join(0, 1), 11);
        A.due("the first one's KIND stays", x.value(0, 13), 12);
        x.favour(0, 0, 1, 0, 30, 50);
        x.favour(0, 0, 1, 0, 10, 60);
        x.favour(0, 0, 1, 0, 1, 70);
        A.due("40", x.join(2, 3), 40);
        A.due("40 at most", x.join(2, 4), 40);
        A.due("the lesser TILL is the first one's", x.value(2, 51), 0);
        A.due("40 of value", x.value(2, 50), 40);
        x.favour(1, 1, 0, 0, 10, 90);
        x.night();
        x.favour(1, 1, 0, 0, 10, 90);
        A.due("worths, not values", x.join(6, 5), 20);
        A.due("the first one's MADE stays", x.value(6, 3), 18);
        x.favour(0, 2, 3, 0, 4, 90);
        x.favour(2, 2, 3, 0, 4, 0);
        A.due("a HOLY one's TILL that is over", x.join(7, 8), 8);
        A.due("and so of VALUE 0", x.value(7, 1), 0);
    }

    private static void promise14() {
        FavoursGoOff x = new FavoursGoOff();
        x.strong(0, 10);
        x.favour(0, 0, 1, 0, 6, 5);
        x.favour(1, 0, 2, 0, 5, 5);
        x.favour(0, 0, 3, 0, 4, 5);
        x.favour(3, 0, 3, 0, 1, 5);
        A.due("ask, no favour", x.ask(4), -2);
        A.due("ask(-1)", x.ask(-1), -2);
        A.due("ask far off", x.ask(HIGH), -2);
        A.due("ask", x.ask(0), 6);
        A.due("ask: GONE", x.of(0), -1);
        A.due("ask, GONE", x.ask(0), -3);
        A.due("ask, more than he can", x.ask(1), -3);
        A.due("ask, more: it stays", x.of(1), 2);
        A.due("ask, all that he can", x.ask(2), 4);
        A.due("ask, VALUE 0", x.ask(3), -3);
        A.due("ask: BAD", x.status(0), 3);
        A.due("ask: NO", x.status(1), 3);
        x.night();
        A.due("the next DAY", x.ask(1), 4);
        x.strong(0, 4);
        x.favour(0, 0, 1, 0, 1, 5);
        A.due("he can no more", x.ask(4), -3);
        x.strong(0, 5);
        A.due("stronger", x.ask(4), 1);
        x.favour(0, 1, 0, 0, 20, 5);
        A.due("another's STRENGTH is his own", x.ask(5), 20);
        x.favour(2, 2, 0, 0, 18, 0);
        for (int i = 0; i < 30; i++) {
            x.night();
        }
        A.due("its VALUE, not its WORTH", x.ask(6), -3);
        x.strong(2, 21);
        A.due("a HOLY one grown", x.ask(6), 21);
    }

    private static void promise15() {
        FavoursGoOff x = new FavoursGoOff();
        x.favour(0, 0, 1, 0, 20, 99);
        x.favour(0, 0, 1, 0, 1, 99);
        x.ask(0);
        A.due("tired", x.ask(1), -3);
        for (int day = 1; day <= 99; day++) {
            A.due("night", x.night(), day);
            A.due("night: count(5)", x.count(5), day == 1 ? 1 : 2);
        }
        long h = x.digest();
        A.due("the last DAY", x.night(), -3);
        A.due("the last DAY: NO", x.status(1), 2);
        A.due("the last DAY: nothing changes", x.digest(), h);
        A.due("rested", x.ask(1), 1);
        A.due("the last night is undone", x.undo() + x.count(4), 99);
    }

    private static void promise16() {
        FavoursGoOff x = new FavoursGoOff();
        A.due("undo, none", x.undo(), -3);
        for (int i = 0; i < 4; i++) {
            x.strong(0, i);
            x.night();
        }
        A.due("undo", x.undo(), 1);
        A.due("undo: DAY", x.count(4), 3);
        A.due("undo: STRENGTH", x.strong(0, 50), 3);
        A.due("undo: left", x.count(5), 1);
        A.due("undo more", x.undo(), 1);
        A.due("undo more: DAY", x.count(4), 2);
        A.due("undo more: STRENGTH", x.strong(0, 50), 2);
        A.due("two at most", x.undo(), -3);
        A.due("undo: NO", x.status(1), 2);
        A.due("on from there", x.night(), 3);
        A.due("undo that", x.undo(), 1);
        A.due("undone: STRENGTH", x.strong(0, 1), 50);
        x.night();
        x.people(4);
        A.due("behind people()", x.undo(), -3);
        x.night();
        Answers.readText(x, "people 2");
        A.due("behind a fault", x.count(5), 1);
        Answers.readText(x, "people 2;");
        A.due("behind read()", x.undo(), -3);
    }

    private static void promise16All() {
        FavoursGoOff x = new FavoursGoOff();
        x.strong(0, 25);
        x.favour(0, 0, 1, 0, 5, 9);
        x.favour(0, 0, 1, 0, 6, 9);
        x.favour(0, 0, 1, 0, 20, 9);
        x.need(1, 0, 5, 2);
        x.told(0, 1, 2);
        x.set(3, 44);
        x.ask(0);
        long h = x.digest();
        x.night();
        x.ask(1);
        x.strong(0, 3);
        x.join(2, 1);
        x.pass(2, 3);
        x.favour(0, 2, 3, 0, 5, 9);
        x.contented();
        x.forget();
        x.set(3, 55);
        A.due("undo all", x.undo(), 1);
        A.due("undo: all as it was", x.digest(), h);
        A.due("undo: what one did that DAY", x.ask(2), 20);
        A.due("undo: and no more", x.ask(1), -3);
        A.due("undo: the plan", x.plan(0), 1);
        x.type('a', 1);
        x.kept(5, 0);
        x.night();
        x.type('b', 1);
        x.kept(5, 1);
        x.undo();
        A.due("undo: THE TEXT stays", x.count(6), 2);
        A.due("undo: THE FRACTION stays", x.part(1), 2);
        A.due("undo: STATUS stays", x.status(1), 2);
    }
}
