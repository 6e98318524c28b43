/** Promise 9, THE STREET and FAULT, sentence by sentence. */
public final class ReadEdgesTest {
    private static final Answers A = new Answers();
    private static final String FAVOUR = "favour0 0 1 0 1 0;", NEED = "need0 0 1 0;";

    public static void main(String[] args) {
        peopleTwoToSix();
        peopleOnce();
        peopleFirstOfAll();
        strongNumbers();
        favourNumbers();
        favourUnlike();
        needNumbers();
        eachEndedBySemicolon();
        blanksAnyNumber();
        blanksOnlyWhereNeeded();
        figuresOneOrTwo();
        threeFiguresOrMore();
        wordsThatAreNone();
        aKindIsANumber();
        bytesThatBeginNone();
        bytesBehindAToken();
        aThirteenthFavour();
        aSixthNeed();
        favoursAndNeedsInAll();
        theFirstTokenThatCanNotStand();
        endsTooEarly();
        anEmptyOne();
        eachPrefix();
        aTextOfTwoHundredAndFifty();
        howManyItems();
        takesThePlace();
        ratesStay();
        noPassesAndDayZero();
        theTextStays();
        allStays();
        nothingOfAFaultyOneStays();
        aFaultIsNoRefusal();
        A.end("ReadEdgesTest");
    }

    private static void fault(String text, int place) {
        FavoursGoOff x = new FavoursGoOff();
        x.people(5);
        x.favour(0, 0, 1, 0, 5, 9);
        Answers.write(x, text);
        long h = x.digest();
        A.due("read of '" + text + "'", x.read(), -10 - place);
        A.due("all stays behind '" + text + "'", x.digest(), h);
    }

    private static FavoursGoOff items(String text, int n) {
        FavoursGoOff x = new FavoursGoOff();
        A.due("read of '" + text + "'", Answers.readText(x, text), n);
        return x;
    }

    private static void peopleTwoToSix() {
        A.sentence("people n (2 .. 6)");
        for (int n = 2; n <= 6; n++) {
            A.due("PEOPLE of " + n, items("people " + n + ";", 1).count(0), n);
            A.due("PEOPLE of 0" + n, items("people 0" + n + ";", 1).count(0), n);
        }
        for (String n : new String[] {"0", "1", "7", "8", "9", "00", "01", "07", "10", "12", "26", "99"}) {
            fault("people " + n + ";", 7);
        }
    }

    private static void peopleOnce() {
        A.sentence("people again");
        fault("people 2;people 2;", 9);
        fault("people 2;people", 9);
        fault("people 2;strong 0 1; people 3;", 21);
        fault("people 2;" + FAVOUR + "people 2;", 27);
    }

    private static void peopleFirstOfAll() {
        A.sentence("first of all; anything ahead of it");
        fault("strong 0 1;people 2;", 0);
        fault("favour 0 0 1 0 1 0;people 2;", 0);
        fault(" need 0 0 1 0;people 2;", 1);
        fault(";people 2;", 0);
        fault("2 people 2;", 0);
        fault("x people 2;", 0);
        fault("strong", 0);
    }

    private static void strongNumbers() {
        A.sentence("strong p n");
        A.due("the least", items("people 2;strong 0 0;", 2).strong(0, 20), 0);
        A.due("the greatest", items("people 2;strong 1 99;", 2).strong(1, 20), 99);
        A.due("the sixth", items("people 6;strong 5 7;", 2).strong(5, 20), 7);
        A.due("the others stay 20", items("people 2;strong 1 99;", 2).strong(0, 20), 20);
        fault("people 2;strong 2 0;", 16);
        fault("people 6;strong 6 0;", 16);
        fault("people 2;strong 99 0;", 16);
        fault("people 2;strong 0 100;", 18);
        fault("people 2;strong ;", 16);
        fault("people 2;strong 0;", 17);
        fault("people 2;strong 0 1 2;", 20);
        fault("people 2;strong p 1;", 16);
    }

    private static void favourNumbers() {
        A.sentence("favour KIND BY OF THING WORTH TILL");
        A.due("the least", items("people 2;favour 0 0 1 0 1 0;", 2).value(0, 0), 1);
        A.due("the greatest", items("people 6;favour 4 5 4 3 40 99;", 2).value(0, 1), 38);
        A.due("OF the greatest", items("people 6;favour 4 4 5 3 40 99;", 2).of(0), 5);
        A.due("KIND 2 in two figures", items("people 6;favour 02 04 05 03 04 09;", 2).value(0, 19), 5);
        fault("people 2;favour 5 0 1 0 1 0;", 16);
        fault("people 2;favour 0 2 1 0 1 0;", 18);
        fault("people 2;favour 0 0 2 0 1 0;", 20);
        fault("people 2;favour 0 0 1 4 1 0;", 22);
        fault("people 2;favour 0 0 1 0 0 0;", 24);
        fault("people 2;favour 0 0 1 0 00 0;", 24);
        fault("people 2;favour 0 0 1 0 41 0;", 24);
        fault("people 2;favour 0 0 1 0 1 100;", 26);
        fault("people 2;favour 0 0 1 0 1 0 0;", 28);
        fault("people 2;favour 0 0 1 0 1;", 25);
        fault("people 2;favour ;", 16);
    }

    private static void favourUnlike() {
        A.sentence("BY, OF unlike");
        fault("people 2;favour 0 0 0 0 1 0;", 20);
        fault("people 2;favour 0 1 1 0 1 0;", 20);
        fault("people 2;favour 0 1 01 0 1 0;", 20);
        fault("people 6;favour 0 05 5 9 1 0;", 21);
        A.due("unlike", items("people 2;favour 0 1 0 0 1 0;", 2).owes(1, 0), 1);
        A.due("a number like BY that is not OF", items("people 2;favour 1 1 0 1 1 1;", 2).owes(1, 0), 1);
    }

    private static void needNumbers() {
        A.sentence("need p THING SIZE DAY");
        items("people 2;need 0 0 1 0;", 2);
        items("people 2;need 1 3 40 99;", 2);
        items("people 6;need 5 3 40 99;", 2);
        fault("people 2;need 2 0 1 0;", 14);
        fault("people 2;need 0 4 1 0;", 16);
        fault("people 2;need 0 0 0 0;", 18);
        fault("people 2;need 0 0 41 0;", 18);
        fault("people 2;need 0 0 1 100;", 20);
        fault("people 2;need 0 0 1;", 19);
        fault("people 2;need 0 0 1 0 0;", 22);
        FavoursGoOff x = new FavoursGoOff();
        Answers.nights(x, 9);
        A.due("a DAY that is over by now is none: it is DAY 0", Answers.readText(x, "people 2;need 0 0 1 0;"), 2);
    }

    private static void eachEndedBySemicolon() {
        A.sentence("ITEMS, each ended by ;");
        fault("people 2", 8);
        fault("people 2 strong 0 1;", 9);
        fault("people 2;strong 0 1 need 0 0 1 0;", 20);
        fault("people 2;strong 0 1", 19);
        fault("people 2;;", 9);
        fault("people 2; ;", 10);
        items("people 2;", 1);
    }

    private static void blanksAnyNumber() {
        A.sentence("blanks (32), any number, ahead of, between and behind TOKENS");
        A.due("one each", items(" people 3 ; strong 2 9 ; ", 2).strong(2, 0), 9);
        A.due("many", items("     people     3     ;     strong     2     9     ;     ", 2).strong(2, 0), 9);
        A.due("none but those needed", items("people3;strong2 9;", 2).strong(2, 0), 9);
        items("people 3;" + " ".repeat(241), 1);
        items(" ".repeat(241) + "people 3;", 1);
        items("people" + " ".repeat(242) + "3;", 1);
        items("people 3" + " ".repeat(241) + ";", 1);
    }

    private static void blanksOnlyWhereNeeded() {
        A.sentence("needed only between two words, two numbers");
        items("people2;favour0 0 1 0 1 0;need0 0 1 0;strong0 0;", 4);
        fault("people6;strong05;", 16);
        fault("people2;strong05;", 14);
        fault("people2;favour00 1 0 1 0;", 23);
        fault("people2;favour0 01 0 1 0;", 23);
        fault("peoplestrong 2;", 0);
        fault("people 2;strongstrong 0 5;", 9);
        fault("people 2strong 0 5;", 8);
        fault("people 2;strong 0 5need 0 0 1 0;", 19);
        fault("peo ple 2;", 0);
        fault("people 2;strong 0 5 ne ed;", 20);
    }

    private static void figuresOneOrTwo() {
        A.sentence("figures (1 or 2 are one number)");
        A.due("9", items("people 2;strong 0 9;", 2).strong(0, 0), 9);
        A.due("09", items("people 2;strong 0 09;", 2).strong(0, 0), 9);
        A.due("00", items("people 2;strong 00 00;", 2).strong(0, 1), 0);
        A.due("10", items("people 2;strong 0 10;", 2).strong(0, 0), 10);
        A.due("90", items("people 2;strong 0 90;", 2).strong(0, 0), 90);
        A.due("99", items("people 2;strong 0 99;", 2).strong(0, 0), 99);
        fault("people 2;strong 0 9 9;", 20);
    }

    private static void threeFiguresOrMore() {
        A.sentence("a run of three figures or more (at its first one)");
        fault("people 002;", 7);
        fault("people 0000002;", 7);
        fault("people 2;strong 000 1;", 16);
        fault("people 2;strong 0 001;", 18);
        fault("people 2;strong 0   123456789012345678901234567890", 20);
        fault("people 2;favour 0 0 1 0 1 099;", 26);
        fault("people 2;strong 0 5 678;", 20);
        fault("people 2;678", 9);
        fault("678", 0);
        fault("people 2;strong 0 " + "9".repeat(232), 18);
    }

    private static void wordsThatAreNone() {
        A.sentence("a word that is none");
        fault("person 2;", 0);
        fault("people 2;stron 0 5;", 9);
        fault("people 2;strongs 0 5;", 9);
        fault("people 2;favor 0 0 1 0 1 0;", 9);
        fault("people 2;favours 0 0 1 0 1 0;", 9);
        fault("people 2;nee 0 0 1 0;", 9);
        fault("people 2;needs 0 0 1 0;", 9);
        fault("beople 2;", 0);
        fault("people 2;ttrong 0 5;", 9);
        fault("people 2;bavour 0 0 1 0 1 0;", 9);
        fault("people 2;feed 0 0 1 0;", 9);
        fault("people 2;neef 0 0 1 0;", 9);
        fault("people 2;a", 9);
        fault("people 2;z;", 9);
        fault("people 2; plain", 10);
        fault("a", 0);
        fault("people 2;strong 0 zzz;", 18);
    }

    private static void aKindIsANumber() {
        A.sentence("words of letters a .. z (a KIND is told as its number)");
        for (String kind : new String[] {"plain", "fading", "holy", "unborn", "keen"}) {
            fault("people 2;favour " + kind + " 0 1 0 1 0;", 16);
        }
        for (int kind = 0; kind <= 4; kind++) {
            items("people 2;favour " + kind + " 0 1 0 1 0;", 2);
        }
        fault("People 2;", 0);
        fault("peoplE 2;", 0);
        fault("people 2;Need 0 0 1 0;", 9);
    }

    private static void bytesThatBeginNone() {
        A.sentence("a byte that begins none");
        char[] none = {0, 1, 9, 10, 13, 31, 33, '-', '/', ':', '<', '?', '@', 'A', 'Z', '[', '`', '{', '~', 127, 128, 160, 255};
        for (char sign : none) {
            fault(sign + "people 2;", 0);
            fault("people 2;" + sign, 9);
            fault("people 2; " + sign + "strong 0 5;", 10);
            fault("people 2;strong " + sign + "0 5;", 16);
        }
    }

    private static void bytesBehindAToken() {
        A.sentence("a byte that begins none, right behind a TOKEN");
        char[] none = {0, 10, 31, 33, '/', ':', '<', '@', 'A', 'Z', '`', '{', 128, 255};
        for (char sign : none) {
            fault("people 2" + sign + ";", 8);
            fault("people" + sign + "2;", 6);
            fault("people 2;strong 0 5" + sign, 19);
        }
        fault("people 2;stro\u00e9ng 0 5;", 9);
    }

    private static void aThirteenthFavour() {
        A.sentence("a 13th favour at the word");
        String twelve = "people2;" + FAVOUR.repeat(12);
        A.due("twelve", items(twelve, 13).count(1), 12);
        fault(twelve + FAVOUR, 224);
        fault(twelve + "favour", 224);
        fault(twelve + "favour 9 9 9", 224);
        fault(twelve + "  favour;", 226);
        fault(twelve + "strong0 0 favour", 234);
        A.due("another item behind twelve", items(twelve + "strong0 0;", 14).strong(0, 1), 0);
        FavoursGoOff x = new FavoursGoOff();
        for (int f = 0; f < 12; f++) {
            x.favour(0, 0, 1, 0, 1, 0);
        }
        A.due("those that were there do not count", Answers.readText(x, "people2;" + FAVOUR.repeat(12)), 13);
    }

    private static void aSixthNeed() {
        A.sentence("a sixth need at the word");
        String five = "people2;" + NEED.repeat(5);
        A.due("five", items(five, 6).count(2), 5);
        fault(five + NEED, 68);
        fault(five + "need", 68);
        fault(five + "need 9", 68);
        fault(five + FAVOUR + " need", 87);
        items(five + FAVOUR + "strong 1 1;", 8);
        FavoursGoOff x = new FavoursGoOff();
        for (int n = 0; n < 5; n++) {
            x.need(0, 0, 1, 0);
        }
        A.due("those that were there do not count", Answers.readText(x, five), 6);
    }

    private static void favoursAndNeedsInAll() {
        A.sentence("a 13th favour, a sixth need: each counted by itself");
        FavoursGoOff x = items("people2;" + FAVOUR.repeat(10) + NEED.repeat(5), 16);
        A.due("FAVOURS", x.count(1), 10);
        A.due("NEEDS", x.count(2), 5);
        x = items("people2;" + FAVOUR.repeat(12) + NEED.repeat(2), 15);
        A.due("FAVOURS", x.count(1), 12);
        A.due("NEEDS", x.count(2), 2);
    }

    private static void theFirstTokenThatCanNotStand() {
        A.sentence("FAULT: the place of the first byte of the first TOKEN that can not stand there");
        fault("people 9;strong 9 9;x", 7);
        fault("people 2;favour 9 9 9 9 99 999;", 16);
        fault("people 2;favour 0 1 1 9 99 999;", 20);
        fault("people 2;strong 1 5;strong 2 555", 27);
        fault("people 2;strong 1 5;needs;people 2;", 20);
        fault("people 2;strong ; 1 5;", 16);
        fault("people 2;strong strong 1 5;", 16);
        fault("people people 2;", 7);
        fault("people ; 2", 7);
    }

    private static void endsTooEarly() {
        A.sentence("the TEXT's length, if it ends too early");
        String[] texts = {"people", "people  ", "people 2", "people 2   ", "people 2;strong", "people 2;strong 1",
            "people 2;strong 1 ", "people 2;strong 1 9", "people 2;favour", "people 2;favour 0 0 1 0 1 0",
            "people 2;favour 0 0 ", "people 2;need 0 0 1 0", "people 2;need", "people" + " ".repeat(244)};
        for (String text : texts) {
            fault(text, text.length());
        }
    }

    private static void anEmptyOne() {
        A.sentence("an empty one, too");
        fault("", 0);
        fault(" ", 1);
        fault("       ", 7);
        fault(" ".repeat(250), 250);
    }

    private static void eachPrefix() {
        A.sentence("FAULT of each beginning of one text");
        String all = "people 3; strong 2 19;need 1 0 4 8;";
        int[] due = {
            -10, -10, -10, -10, -10, -10, -16, -17, -18, 1,
            1, -20, -20, -20, -20, -20, -26, -27, -28, -29,
            -30, -31, 2, -32, -32, -32, -36, -37, -38, -39,
            -40, -41, -42, -43, -44, 3};
        A.due("how many beginnings", all.length() + 1, due.length);
        for (int n = 0; n < due.length; n++) {
            A.due("the first " + n, Answers.readText(new FavoursGoOff(), all.substring(0, n)), due[n]);
        }
    }

    private static void aTextOfTwoHundredAndFifty() {
        A.sentence("THE STREET is a TEXT (250 bytes at most)");
        String all = "people2;" + FAVOUR.repeat(12) + NEED + "strong1 9 ;  ";
        A.due("its length", all.length(), 249);
        FavoursGoOff x = items(all + " ", 15);
        A.due("count(6)", x.count(6), 250);
        A.due("its last item", x.strong(1, 0), 9);
        fault(all + "x", 249);
        fault("people2;" + FAVOUR.repeat(12) + NEED + "strong1 9    ", 249);
        A.due("ended by the last byte", items("people2;" + FAVOUR.repeat(12) + NEED + "strong1 9    ;", 15).count(6), 250);
        fault("people2;" + FAVOUR.repeat(12) + NEED + "strong1 9     ", 250);
    }

    private static void howManyItems() {
        A.sentence("read: how many ITEMS");
        items("people 2;", 1);
        items("people 2;strong 0 1;", 2);
        items("people 2;" + "strong0 1;".repeat(24), 25);
        A.due("the last told stands", items("people 2;strong 0 1;strong 0 2;", 3).strong(0, 3), 2);
        A.due("a strong ahead of the favours", items("people 2;strong 0 1;" + FAVOUR, 3).owes(0, 1), 1);
    }

    private static void takesThePlace() {
        A.sentence("takes the place of PEOPLE, STRENGTHS, FAVOURS, NEEDS");
        FavoursGoOff x = new FavoursGoOff();
        x.people(6);
        x.strong(0, 5);
        x.strong(1, 9);
        for (int f = 0; f < 12; f++) {
            x.favour(0, 0, 1, 0, 5, 99);
        }
        for (int n = 0; n < 5; n++) {
            x.need(1, 0, 1, 9);
        }
        x.ask(3);
        A.due("read", Answers.readText(x, "people 2;strong 1 30;favour 0 1 0 0 30 9;"), 3);
        A.due("PEOPLE", x.count(0), 2);
        A.due("FAVOURS", x.count(1), 1);
        A.due("NEEDS", x.count(2), 0);
        A.due("STRENGTH that is not told", x.strong(0, 20), 20);
        A.due("STRENGTH that is told", x.strong(1, 30), 30);
        A.due("nobody did anything", x.ask(0), 30);
        A.due("read of people alone", Answers.readText(x, "people 2;"), 1);
        A.due("FAVOURS of none", x.count(1), 0);
        A.due("STRENGTH anew", x.strong(1, 20), 20);
        x.favour(0, 0, 1, 0, 20, 99);
        A.due("nobody did anything yet", x.ask(0), 20);
    }

    private static void ratesStay() {
        A.sentence("RATES stay");
        FavoursGoOff x = new FavoursGoOff();
        for (int thing = 0; thing < 4; thing++) {
            x.set(thing, thing == 0 ? 1 : 96 + thing);
        }
        A.due("read", Answers.readText(x, "people 2;need 0 0 1 0;"), 2);
        A.due("the least", x.rate(0, 0), 1);
        A.due("the greatest", x.rate(3, 0), 99);
        A.due("the others", x.rate(1, 0) * 100 + x.rate(2, 0), 9798);
    }

    private static void noPassesAndDayZero() {
        A.sentence("no PASSES are told, it is DAY 0");
        FavoursGoOff x = new FavoursGoOff();
        x.favour(0, 0, 1, 0, 5, 99);
        for (int i = 0; i < 12; i++) {
            x.told(0, 2, 3);
        }
        Answers.nights(x, 99);
        A.due("read", Answers.readText(x, "people 2;favour 1 0 1 0 5 9;"), 2);
        A.due("PASSES told", x.count(3), 0);
        A.due("FORGED", x.forged(), -1);
        A.due("the DAY", x.count(4), 0);
        A.due("MADE on DAY 0", x.value(0, 1), 4);
        A.due("NIGHTS that may be undone", x.count(5), 0);
        A.due("undo", x.undo(), -3);
        A.due("a PASS told is the first", x.told(0, 1, 0), 0);
        A.due("the next DAY", x.night(), 1);
        A.due("and back to what was read", x.undo() + x.count(1), 2);
    }

    private static void theTextStays() {
        A.sentence("THE STREET is read (THE TEXT is as it was)");
        FavoursGoOff x = new FavoursGoOff();
        x.kept(0, 0);
        A.due("read", Answers.readText(x, "people 2;favour 0 0 1 0 5 9;"), 2);
        A.due("count(6)", x.count(6), 28);
        x.ask(0);
        A.due("read again", x.read(), 2);
        A.due("as it was told", x.of(0), 1);
        A.due("more of it", x.type(0x6E656564L, 4), 32);
        A.due("read, ended too early", x.read(), -10 - 32);
        A.due("and the FRACTION stays", x.part(0), 1);
    }

    private static void allStays() {
        A.sentence("-10 less the FAULT: all stays");
        FavoursGoOff x = new FavoursGoOff();
        x.people(3);
        x.favour(0, 0, 1, 0, 5, 99);
        x.need(1, 0, 5, 9);
        x.told(0, 1, 2);
        x.night();
        x.strong(0, 6);
        x.ask(0);
        Answers.write(x, "people 2;favour 0 1 0 0 9 9;need 0 0 1 0;need 0 0 1 0;strong 0 9");
        long h = x.digest();
        A.due("read", x.read(), -10 - x.count(6));
        A.due("digest", x.digest(), h);
        A.due("NIGHTS that may be undone", x.count(5), 1);
        x.favour(0, 0, 1, 0, 2, 99);
        A.due("what one did this DAY", x.ask(1), -3);
        A.due("undo", x.undo(), 1);
        A.due("what was", x.of(0), 1);
        A.due("the PASS told", x.forged(), -1);
    }

    private static void nothingOfAFaultyOneStays() {
        A.sentence("all stays: nothing of a faulty TEXT is in the next one");
        FavoursGoOff x = new FavoursGoOff();
        A.due("a fault", Answers.readText(x, "people 6;strong 1 3;" + FAVOUR.repeat(8) + NEED.repeat(5) + "x"), -10 - 224);
        A.due("read", Answers.readText(x, "people 3;" + FAVOUR), 2);
        A.due("PEOPLE", x.count(0), 3);
        A.due("FAVOURS", x.count(1), 1);
        A.due("NEEDS", x.count(2), 0);
        A.due("STRENGTH", x.strong(1, 0), 20);
        A.due("a fault at the first number", Answers.readText(x, "people 7;"), -17);
        A.due("twelve", Answers.readText(x, "people2;" + FAVOUR.repeat(12)), 13);
        A.due("five", Answers.readText(x, "people2;" + NEED.repeat(5)), 6);
        A.due("FAVOURS of none", x.count(1), 0);
    }

    private static void aFaultIsNoRefusal() {
        A.sentence("read: -10 less the FAULT (no BAD, NO or FULL is told)");
        FavoursGoOff x = new FavoursGoOff();
        A.due("read", x.read(), -10);
        A.due("read", Answers.readText(x, "people 7;"), -17);
        for (int what = 0; what < 3; what++) {
            A.due("status(" + what + ")", x.status(what), 0);
        }
    }
}
