/** Promises 1 to 11: a street. */
public final class StreetTest {
    private static final Answers A = new Answers();
    private static final int LOW = Integer.MIN_VALUE, HIGH = Integer.MAX_VALUE;

    public static void main(String[] args) {
        promise1();
        promise2();
        promise3();
        promise4();
        promise5();
        promise6();
        promise7();
        promise8();
        promise9Items();
        promise9Faults();
        promise9TooEarly();
        promise9TooMany();
        promise9Stays();
        promise10();
        promise11();
        A.end("StreetTest");
    }

    private static void promise1() {
        FavoursGoOff x = new FavoursGoOff();
        int[] counts = {4, 0, 0, 0, 0, 0, 0};
        for (int what = 0; what < counts.length; what++) {
            A.due("new: count(" + what + ")", x.count(what), counts[what]);
        }
        for (int p = 0; p < 4; p++) {
            A.due("new: strong", x.strong(p, 20), 20);
        }
        for (int thing = 0; thing < 4; thing++) {
            A.due("new: rate", x.rate(thing, 0), 10);
        }
        A.due("new: part(0)", x.part(0), 0);
        A.due("new: part(1)", x.part(1), 1);
        A.due("new: status(0)", x.status(0) + x.status(1) + x.status(2), 0);
        A.due("new: from(0)", x.from(0), -3);
        A.due("new: from(1)", x.from(1), -3);
        A.due("new: undo()", x.undo(), -3);
    }

    private static void promise2() {
        FavoursGoOff x = new FavoursGoOff();
        x.favour(0, 0, 1, 0, 5, 9);
        x.need(0, 0, 1, 0);
        x.told(0, 1, 2);
        x.strong(0, 7);
        x.ask(0);
        x.set(2, 33);
        x.night();
        x.type('a', 1);
        x.kept(0, 0);
        for (int n : new int[] {1, 0, -1, 7, LOW, HIGH}) {
            A.due("people(" + n + ")", x.people(n), -2);
        }
        A.due("refused people: count(4)", x.count(4), 1);
        A.due("refused people: count(5)", x.count(5), 1);
        A.due("people(2)", x.people(2), 4);
        A.due("people(6)", x.people(6), 2);
        int[] counts = {6, 0, 0, 0, 0, 0, 1};
        for (int what = 0; what < counts.length; what++) {
            A.due("people: count(" + what + ")", x.count(what), counts[what]);
        }
        A.due("people: RATES stay", x.rate(2, 0), 33);
        A.due("people: STRENGTH", x.strong(0, 1), 20);
        A.due("people: the sixth's", x.strong(5, 1), 20);
        A.due("people: nothing to undo", x.undo(), -3);
        A.due("people: THE FRACTION stays", x.part(0), 1);
        x.people(4);
        x.favour(0, 0, 1, 0, 20, 9);
        x.ask(0);
        x.people(4);
        x.favour(0, 0, 1, 0, 20, 9);
        A.due("people: nobody did anything", x.ask(0), 20);
    }

    private static void promise3() {
        FavoursGoOff x = new FavoursGoOff();
        A.due("strong(0, 0)", x.strong(0, 0), 20);
        A.due("strong(0, 99)", x.strong(0, 99), 0);
        A.due("strong(3, 5)", x.strong(3, 5), 20);
        A.due("strong(0, 1)", x.strong(0, 1), 99);
        int[][] bad = {{4, 0}, {-1, 0}, {0, -1}, {0, 100}, {LOW, 0}, {HIGH, 0}, {0, LOW}, {0, HIGH}};
        for (int[] b : bad) {
            A.due("strong(" + b[0] + ", " + b[1] + ")", x.strong(b[0], b[1]), -2);
        }
        A.due("strong stays", x.strong(0, 2), 1);
        A.due("strong: BAD", x.status(0), bad.length);
    }

    private static void promise4() {
        FavoursGoOff x = new FavoursGoOff();
        int[][] bad = {
            {-1, 0, 1, 0, 1, 0}, {5, 0, 1, 0, 1, 0}, {0, -1, 1, 0, 1, 0}, {0, 4, 1, 0, 1, 0}, {0, 0, -1, 0, 1, 0},
            {0, 0, 4, 0, 1, 0}, {0, 2, 2, 0, 1, 0}, {0, 0, 1, -1, 1, 0}, {0, 0, 1, 4, 1, 0}, {0, 0, 1, 0, 0, 0},
            {0, 0, 1, 0, 41, 0}, {0, 0, 1, 0, 1, -1}, {0, 0, 1, 0, 1, 100}, {LOW, HIGH, LOW, HIGH, LOW, HIGH}};
        for (int[] b : bad) {
            A.due("favour, bad", x.favour(b[0], b[1], b[2], b[3], b[4], b[5]), -2);
        }
        A.due("favour: none came", x.count(1), 0);
        x.night();
        for (int f = 0; f < 12; f++) {
            A.due("favour", x.favour(f % 5, f % 4, (f + 1) % 4, f % 4, f == 0 ? 40 : 1, f == 0 ? 0 : 99), f);
        }
        A.due("a 13th", x.favour(0, 0, 1, 0, 1, 0), -4);
        A.due("a 13th, bad", x.favour(0, 1, 1, 0, 1, 0), -2);
        A.due("favour: BAD", x.status(0), bad.length + 1);
        A.due("favour: FULL", x.status(2), 1);
        A.due("favour: GONE ones count", x.ask(5) + x.favour(0, 0, 1, 0, 1, 0), 1 - 4);
        A.due("favour: its MADE is the DAY", x.value(1, 3), 0);
        FavoursGoOff y = new FavoursGoOff();
        y.night();
        y.favour(1, 0, 1, 0, 9, 50);
        A.due("favour: MADE on DAY 1", y.value(0, 3), 7);
        A.due("favour: of a DAY that is over", y.favour(0, 0, 1, 0, 9, 0), 1);
    }

    private static void promise5() {
        FavoursGoOff x = new FavoursGoOff();
        x.night();
        int[][] bad = {{-1, 0, 1, 1}, {4, 0, 1, 1}, {0, -1, 1, 1}, {0, 4, 1, 1}, {0, 0, 0, 1}, {0, 0, 41, 1},
            {0, 0, 1, 0}, {0, 0, 1, -1}, {0, 0, 1, 100}, {HIGH, LOW, HIGH, LOW}};
        for (int[] b : bad) {
            A.due("need, bad", x.need(b[0], b[1], b[2], b[3]), -2);
        }
        A.due("need: none came", x.count(2), 0);
        A.due("need now", x.need(0, 0, 1, 1), 0);
        A.due("need on the last day", x.need(3, 3, 40, 99), 1);
        for (int i = 2; i < 5; i++) {
            A.due("need", x.need(0, 0, 1, 1), i);
        }
        A.due("a sixth", x.need(0, 0, 1, 1), -4);
        A.due("a sixth, bad", x.need(0, 0, 1, 0), -2);
        A.due("need: BAD", x.status(0), bad.length + 1);
        A.due("need: FULL", x.status(2), 1);
    }

    private static void promise6() {
        FavoursGoOff x = new FavoursGoOff();
        A.due("contented, none", x.contented(), 0);
        x.need(0, 0, 1, 1);
        x.need(1, 0, 1, 1);
        A.due("contented", x.contented(), 2);
        A.due("contented: count", x.count(2), 0);
        A.due("contented: plan", x.plan(0), -2);
        A.due("contented: the next", x.need(0, 0, 1, 1), 0);
    }

    private static void promise7() {
        FavoursGoOff x = new FavoursGoOff();
        for (int n : new int[] {0, 9, -1, LOW, HIGH}) {
            A.due("type, bad", x.type(1, n), -2);
        }
        A.due("type: BAD", x.status(0), 5);
        /* "people 2;": the highest of the lowest bytes comes first, those above are passed over. */
        A.due("type 1", x.type(0x7A7A7A7A7A7A7A70L, 1), 1);
        A.due("type 2", x.type(-0x10000L | 0x656F, 2), 3);
        A.due("type 6", x.type(0x7A7A706C65203220L >> 8, 5), 8);
        A.due("people 2, and no end", x.read(), -18);
        x.clear();
        A.due("type 8", x.type(0x70656F706C652032L, 8), 8);
        A.due("type ;", x.type(';', 1), 9);
        A.due("type: read", x.read(), 1);
        A.due("type: two people", x.count(0), 2);
        for (int i = 1; i <= 30; i++) {
            A.due("type 8 more", x.type(0x2020202020202020L, 8), 9 + 8 * i);
        }
        A.due("type: too many", x.type(32, 2), -4);
        A.due("type: FULL", x.status(2), 1);
        A.due("type: none of them came", x.count(6), 249);
        A.due("type: the last", x.type(32, 1), 250);
        A.due("type: one more", x.type(32, 1), -4);
        A.due("type: one more, bad", x.type(32, 0), -2);
        A.due("a text of 250", x.read(), 1);
    }

    private static void promise8() {
        FavoursGoOff x = new FavoursGoOff();
        A.due("clear, none", x.clear(), 0);
        x.type(0x61626364L, 4);
        A.due("clear", x.clear(), 4);
        A.due("clear: count", x.count(6), 0);
        A.due("clear: an empty one ends too early", x.read(), -10);
    }

    private static void promise9Items() {
        FavoursGoOff x = new FavoursGoOff();
        x.set(1, 77);
        x.favour(0, 0, 1, 0, 20, 9);
        x.told(0, 1, 2);
        x.ask(0);
        x.night();
        x.favour(0, 0, 1, 0, 20, 9);
        x.ask(1);
        String text = "  people3;strong 02 99 ;strong 1 0; favour4 2 0 3 40 09;need2 3 40 99;need 0 0 1 0; ";
        A.due("read", Answers.readText(x, text), 6);
        int[] counts = {3, 1, 2, 0, 0, 0, text.length()};
        for (int what = 0; what < counts.length; what++) {
            A.due("read: count(" + what + ")", x.count(what), counts[what]);
        }
        A.due("read: nothing to undo", x.undo(), -3);
        A.due("read: RATES stay", x.rate(1, 0), 77);
        A.due("read: strength 0", x.strong(0, 20), 20);
        A.due("read: strength 1", x.strong(1, 20), 0);
        A.due("read: strength 2", x.strong(2, 20), 99);
        A.due("read: value", x.value(0, 9), 22);
        A.due("read: value behind TILL", x.value(0, 10), 0);
        A.due("read: of", x.of(0), 0);
        A.due("read: owes", x.owes(2, 0), 40);
        A.due("read again", x.read(), 6);
        A.due("read: nobody did anything", Answers.readText(x, "people 2;favour 0 0 1 0 20 9;"), 2);
        A.due("read: he can", x.ask(0), 20);
        A.due("people alone", Answers.readText(x, "people 6;"), 1);
        A.due("the last told stands", Answers.readText(x, "people 2;strong 1 5;strong 1 6;"), 3);
        A.due("the last told", x.strong(1, 0), 6);
    }

    private static void promise9Faults() {
        fault("strong 0 5;", 0);
        fault(" ;people 2;", 1);
        fault("2 people;", 0);
        fault("Xpeople 2;", 0);
        fault("peoples 2;", 0);
        fault("xeople 2;", 0);
        fault("peoplx 2;", 0);
        fault("people 2;streng 0 1;", 9);
        fault("peopl 2;", 0);
        fault("people x;", 7);
        fault("people ;", 7);
        fault("people 1;", 7);
        fault("people 7;", 7);
        fault("people 12;", 7);
        fault("people 003;", 7);
        fault("people 3 3;", 9);
        fault("people 3 strong;", 9);
        fault("people 3,;", 8);
        fault("people 3;;", 9);
        fault("people 3; 4;", 10);
        fault("people 3; people 3;", 10);
        fault("people 3;strength 0 1;", 9);
        fault("people 3;strong 3 1;", 16);
        fault("people 3;strong -1 1;", 16);
        fault("people 3;strong 0 100;", 18);
        fault("people 3;strong 0 1 1;", 20);
        fault("people 3;strong 0;", 17);
        fault("people 3;favour 5 0 1 0 1 0;", 16);
        fault("people 3;favour 0 3 1 0 1 0;", 18);
        fault("people 3;favour 0 0 3 0 1 0;", 20);
        fault("people 3;favour 0 1 1 0 1 0;", 20);
        fault("people 3;favour 0 1 01 0 1 0;", 20);
        fault("people 3;favour 0 0 1 4 1 0;", 22);
        fault("people 3;favour 0 0 1 0 0 0;", 24);
        fault("people 3;favour 0 0 1 0 41 0;", 24);
        fault("people 3;favour 0 0 1 0 1 100;", 26);
        fault("people 3;favour plain 0 1 0 1 0;", 16);
        fault("people 3;need 3 0 1 0;", 14);
        fault("people 3;need 0 4 1 0;", 16);
        fault("people 3;need 0 0 0 0;", 18);
        fault("people 3;need 0 0 41 0;", 18);
        fault("people 3;need 0 0 1 000;", 20);
        fault("people 3;need 0 0 1 0 need", 22);
        fault("people 3;\u00e9", 9);
        fault("people 3;\n", 9);
        fault("people 3;strong 0 5;\0", 20);
        fault("people 3;favour 0 0 0 9 99 999;", 20);
    }

    private static void promise9TooEarly() {
        for (String text : new String[] {"", "   ", "people", "people ", "people 2", "people 2 ", "people 2;strong",
            "people 2;strong 0", "people 2;strong 0 5  ", "people 2;favour 0 0 1 0 1 0", "people 2;need 0 0"}) {
            fault(text, text.length());
        }
        fault("peo", 0);
        fault("people 2; fav", 10);
        fault("people 222", 7);
    }

    private static void promise9TooMany() {
        StringBuilder all = new StringBuilder("people2;");
        for (int f = 0; f < 12; f++) {
            all.append("favour0 0 1 0 1 0;");
        }
        FavoursGoOff x = new FavoursGoOff();
        A.due("twelve", Answers.readText(x, all.toString()), 13);
        A.due("twelve: count", x.count(1), 12);
        fault(all + "favour", all.length());
        fault(all + " favour 9", all.length() + 1);
        fault(all + "favour0 0 1 0 1 0;", all.length());
        StringBuilder needs = new StringBuilder("people2;");
        for (int n = 0; n < 5; n++) {
            needs.append("need 0 0 1 0;");
        }
        A.due("five", Answers.readText(x, needs.toString()), 6);
        fault(needs + "need 0 0 1 0;", needs.length());
        A.due("five and a favour", Answers.readText(x, needs + "favour 0 0 1 0 1 0;"), 7);
    }

    private static void promise9Stays() {
        FavoursGoOff x = new FavoursGoOff();
        x.people(3);
        x.strong(1, 9);
        x.favour(1, 0, 1, 2, 9, 9);
        x.need(1, 2, 3, 4);
        x.told(0, 1, 2);
        x.night();
        Answers.write(x, "people 2;strong 0 7;favour 0 0 1 0 1 0;need 0 0 1 0;need 0 0 1");
        long h = x.digest();
        A.due("a fault", x.read(), -10 - 62);
        A.due("a fault: all stays", x.digest(), h);
        A.due("a fault is no BAD", x.status(0) + x.status(1) + x.status(2), 0);
        A.due("a fault: the night may be undone", x.undo(), 1);
        Answers.write(x, "people 2;");
        x.read();
        A.due("no favours from the fault", x.count(1) + x.count(2), 0);
        A.due("no strength from the fault", x.strong(0, 1), 20);
    }

    private static void fault(String text, int place) {
        FavoursGoOff x = new FavoursGoOff();
        Answers.write(x, text);
        long h = x.digest();
        A.due("read '" + text + "'", x.read(), -10 - place);
        A.due("all stays behind '" + text + "'", x.digest(), h);
    }

    private static void promise10() {
        FavoursGoOff x = new FavoursGoOff();
        for (int i = 0; i < 3; i++) {
            x.night();
        }
        for (int kind = 0; kind < 5; kind++) {
            x.favour(kind, 0, 1, 0, 10, 8);
        }
        int[] days = {0, 3, 4, 5, 8, 9, 17, 18, 19, 28, 99};
        int[][] values = {
            {10, 10, 10, 10, 10, 0, 0, 0, 0, 0, 0},
            {10, 10, 9, 8, 5, 0, 0, 0, 0, 0, 0},
            {10, 10, 10, 10, 10, 10, 10, 11, 11, 12, 19},
            {0, 0, 0, 0, 10, 10, 10, 10, 10, 10, 10},
            {10, 10, 8, 6, 0, 0, 0, 0, 0, 0, 0}};
        for (int kind = 0; kind < 5; kind++) {
            for (int i = 0; i < days.length; i++) {
                A.due("kind " + kind + " on " + days[i], x.value(kind, days[i]), values[kind][i]);
            }
        }
        x.favour(1, 0, 1, 0, 2, 99);
        x.favour(4, 0, 1, 0, 3, 99);
        A.due("fading, 0 at least", x.value(5, 9), 0);
        A.due("keen, 0 at least", x.value(6, 5), 0);
        A.due("keen", x.value(6, 4), 1);
        int[][] bad = {{7, 0}, {-1, 0}, {0, -1}, {0, 100}, {HIGH, LOW}, {LOW, HIGH}};
        for (int[] b : bad) {
            A.due("value, bad", x.value(b[0], b[1]), -2);
        }
        A.due("value: BAD", x.status(0), bad.length);
        x.ask(0);
        A.due("value of a GONE one", x.value(0, 3), 0);
        x.join(1, 2);
        A.due("value of a GONE HOLY one", x.value(2, 99), 0);
    }

    private static void promise11() {
        FavoursGoOff x = new FavoursGoOff();
        A.due("of(0), none came", x.of(0), -2);
        x.favour(0, 0, 3, 0, 5, 9);
        A.due("of(0)", x.of(0), 3);
        A.due("of(1)", x.of(1), -2);
        A.due("of(-1)", x.of(-1), -2);
        A.due("of(HIGH)", x.of(HIGH), -2);
        A.due("of: BAD", x.status(0), 4);
        x.pass(0, 1);
        A.due("of, passed", x.of(0), 1);
        x.ask(0);
        A.due("of, GONE", x.of(0), -1);
        A.due("of: NONE is not refused", x.status(0) + x.status(1), 4);
    }
}
