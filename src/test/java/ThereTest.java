/** Promises 33 to 38: what there is. */
public final class ThereTest {
    private static final Answers A = new Answers();
    private static final int LOW = Integer.MIN_VALUE, HIGH = Integer.MAX_VALUE;

    public static void main(String[] args) {
        promise33();
        promise34And35();
        promise34And35Stay();
        promise36();
        promise37();
        promise38();
        promise38Refused();
        A.end("ThereTest");
    }

    private static void promise33() {
        FavoursGoOff x = new FavoursGoOff();
        A.due("part(0)", x.part(0), 0);
        A.due("part(1)", x.part(1), 1);
        x.favour(0, 0, 1, 0, 1, 9);
        x.need(1, 0, 1, 0);
        x.kept(4, 1);
        A.due("part(0) of 4/10", x.part(0), 2);
        A.due("part(1) of 4/10", x.part(1), 5);
        x.contented();
        A.due("THE FRACTION stays", x.part(1), 5);
        for (int what : new int[] {-1, 2, LOW, HIGH}) {
            A.due("part(" + what + ")", x.part(what), -2);
        }
        A.due("part: BAD", x.status(0), 4);
    }

    private static void promise34And35() {
        FavoursGoOff x = new FavoursGoOff();
        for (int i : new int[] {-1, 2, LOW, HIGH}) {
            A.due("image(" + i + ")", x.image(i), -2);
            A.due("from(" + i + ")", x.from(i), -2);
        }
        A.due("image, from: BAD", x.status(0), 8);
        A.due("none kept", x.from(0), -3);
        A.due("from: NO", x.status(1), 1);
        x.people(5);
        x.strong(4, 44);
        x.favour(0, 0, 1, 0, 5, 9);
        x.favour(0, 0, 1, 1, 5, 9);
        x.need(1, 1, 5, 5);
        x.told(0, 1, 2);
        x.set(0, 55);
        x.night();
        x.strong(4, 45);
        x.ask(0);
        long h = x.digest();
        A.due("image(1)", x.image(1), 1);
        A.due("the other is none", x.from(0), -3);
        x.people(2);
        x.set(0, 1);
        A.due("from(1)", x.from(1), 1);
        A.due("from: all as it was", x.digest(), h);
        A.due("from: the plan", x.plan(0), 1);
        A.due("from: the night may be undone", x.undo(), 1);
        A.due("from: undone", x.strong(4, 0), 44);
        A.due("from: undone, of", x.of(0), 1);
        x.image(0);
        x.ask(1);
        A.due("from(1) again", x.from(1), 1);
        A.due("the image is as it was", x.digest(), h);
        A.due("from(0)", x.from(0), 1);
        A.due("from(0): its own", x.strong(4, 0) * 100 + x.count(5), 0);
        x.strong(3, 9);
        x.image(0);
        x.strong(3, 10);
        x.from(0);
        A.due("the newest kept", x.strong(3, 0), 9);
    }

    private static void promise34And35Stay() {
        FavoursGoOff x = new FavoursGoOff();
        x.night();
        x.night();
        x.night();
        x.image(0);
        x.people(3);
        x.type('a', 1);
        x.kept(0, 0);
        x.people(1);
        x.image(1);
        A.due("behind people()", x.from(0), 1);
        A.due("THE TEXT stays", x.count(6), 1);
        A.due("THE FRACTION stays", x.part(0), 1);
        A.due("STATUS stays", x.status(0), 1);
        A.due("IMAGES stay", x.from(1), 1);
        A.due("the other's PEOPLE", x.count(0), 3);
        A.due("the other's undo", x.undo(), -3);
        x.from(0);
        A.due("two may be undone", x.undo() + x.undo(), 2);
        A.due("and no more", x.undo(), -3);
        A.due("DAY 1", x.count(4), 1);
    }

    private static void promise36() {
        FavoursGoOff x = new FavoursGoOff();
        for (int what = 0; what < 3; what++) {
            A.due("status(" + what + ")", x.status(what), 0);
        }
        A.due("status(3)", x.status(3), -1);
        A.due("status(-1)", x.status(-1), -1);
        A.due("status(LOW)", x.status(LOW), -1);
        A.due("status(HIGH)", x.status(HIGH), -1);
        A.due("they count as BAD", x.status(0), 4);
        x.undo();
        x.pass(0, 0);
        x.owes(0, 0);
        x.net(9);
        x.ring(-2);
        x.ring(3);
        x.type(0, 8);
        x.read();
        for (int i = 0; i < 13; i++) {
            x.favour(0, 0, 1, 0, 1, 9);
        }
        x.ask(0);
        x.pass(0, 2);
        A.due("BAD", x.status(0), 8);
        A.due("NO", x.status(1), 2);
        A.due("FULL", x.status(2), 1);
    }

    private static void promise37() {
        FavoursGoOff x = new FavoursGoOff();
        x.people(3);
        x.favour(0, 0, 1, 0, 1, 9);
        x.favour(0, 0, 1, 0, 1, 9);
        x.ask(0);
        for (int i = 0; i < 3; i++) {
            x.need(0, 0, 1, 50);
            x.night();
        }
        for (int i = 0; i < 4; i++) {
            x.told(0, 0, 1);
        }
        x.type(0, 7);
        int[] counts = {3, 2, 3, 4, 3, 2, 7};
        for (int what = 0; what < counts.length; what++) {
            A.due("count(" + what + ")", x.count(what), counts[what]);
        }
        for (int what : new int[] {-1, 7, LOW, HIGH}) {
            A.due("count(" + what + ")", x.count(what), -2);
        }
        A.due("count: BAD", x.status(0), 4);
    }

    private static long mixed(long... all) {
        long h = 683;
        for (long v : all) {
            h = 31 * h + v;
        }
        return h;
    }

    private static void promise38() {
        FavoursGoOff x = new FavoursGoOff();
        A.due("digest, new", x.digest(),
            mixed(4, 0, 0, 0, 0, 0, 0, 20, 0, 20, 0, 20, 0, 20, 0, 10, 10, 10, 10, 0, 1));
        x.people(2);
        x.night();
        x.strong(0, 9);
        x.favour(1, 0, 1, 2, 8, 30);
        x.favour(4, 1, 0, 3, 7, 31);
        x.ask(0);
        x.need(1, 3, 5, 40);
        x.told(1, 0, 1);
        x.told(0, 1, 0);
        x.set(1, 88);
        x.type(0, 3);
        x.kept(0, 0);
        A.due("digest", x.digest(), mixed(2, 2, 1, 2, 1, 1, 3, 9, 8, 20, 0,
            1, 0, -1, 2, 8, 30, 1, 4, 1, 0, 3, 7, 31, 1, 1, 3, 5, 40, 1, 0, 1, 0, 1, 0, 10, 88, 10, 10, 1, 1));
        A.due("digest is as it was", x.digest() - x.digest(), 0);
    }

    /** What only asks, or is refused, leaves all that the digest tells. */
    private static void promise38Refused() {
        FavoursGoOff x = new FavoursGoOff();
        x.favour(1, 0, 1, 0, 8, 30);
        x.favour(2, 1, 0, 0, 8, 30);
        x.need(1, 0, 5, 40);
        x.told(1, 0, 1);
        x.night();
        long h = x.digest();
        x.value(0, 9);
        x.of(0);
        x.owes(0, 1);
        x.ring(0);
        x.net(0);
        x.fewest();
        x.met(0);
        x.plan(0);
        x.fire(5, 0);
        x.rate(0, 50);
        x.settles();
        x.forged();
        x.goesOff(9);
        x.image(0);
        x.pass(1, 2);
        x.pass(0, 1);
        x.join(0, 1);
        x.status(9);
        x.part(9);
        x.set(0, 0);
        x.strong(0, -1);
        x.need(0, 0, 1, 0);
        x.favour(0, 0, 0, 0, 1, 1);
        x.read();
        A.due("nothing changed", x.digest(), h);
    }
}
