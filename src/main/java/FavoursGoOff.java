/** A street that lends favours with a date; what each call does is told in DOC.md. */
public final class FavoursGoOff {
    public static final int NONE = -1, BAD = -2, NO = -3, FULL = -4;

    private static final int LAST_DAY = 99, TEXT_MOST = 250, TYPED_MOST = 8, BITS = 8;
    private static final int PEOPLE_LEAST = 2, PEOPLE_MOST = 6, PEOPLE_AT_FIRST = 4;
    private static final int STRENGTH_MOST = 99, STRENGTH_AT_FIRST = 20;
    private static final int FAVOURS_MOST = 12, NEEDS_MOST = 5, PASSES_MOST = 12;
    private static final int THINGS = 4, WORTH_MOST = 40, NIGHTS_MOST = 2, ROUND_LAST = 99;
    private static final int RATE_LEAST = 1, RATE_MOST = 99, RATE_AT_FIRST = 10;
    private static final int ODDS = 10;

    private static final int FADING = 1, HOLY = 2, UNBORN = 3, KEEN = 4;

    /* The columns of the four tables of a street, in the order in which digest() tells them. */
    private static final int STRENGTH = 0, DONE = 1, PERSON_WIDTH = 2;
    private static final int KIND = 0, BY = 1, OF = 2, THING = 3, WORTH = 4, TILL = 5, MADE = 6, FAVOUR_WIDTH = 7;
    private static final int NEEDER = 0, NEEDED = 1, SIZE = 2, NEED_DAY = 3, NEED_WIDTH = 4;
    private static final int PASSED = 0, GIVER = 1, TAKER = 2, PASS_WIDTH = 3;

    private final History life = new History();
    private final History imageZero = new History();
    private final History imageOne = new History();
    /* Undo and images copy into this object and never put another in its place. */
    private final Street street = life.now;
    private final Reader reader = new Reader();
    private final Text text = reader.text;
    private final Debts debts = new Debts();
    private final Circle circle = new Circle();
    private final Plan plan = new Plan();
    private final Fraction fraction = new Fraction();
    private int refusedBad;
    private int refusedNo;
    private int refusedFull;

    public FavoursGoOff() {
        street.open(PEOPLE_AT_FIRST);
        for (int thing = 0; thing < THINGS; thing++) {
            street.setRate(thing, RATE_AT_FIRST);
        }
    }

    // ---- a street

    public int people(int n) {
        if (!isWithin(n, PEOPLE_LEAST, PEOPLE_MOST)) {
            return bad(BAD);
        }
        int was = street.people.rows;
        street.open(n);
        life.nights = 0;
        plan.stale = true;
        return was;
    }

    public int strong(int p, int v) {
        if (!street.people.has(p) || !isWithin(v, 0, STRENGTH_MOST)) {
            return bad(BAD);
        }
        int was = street.people.at(p, STRENGTH);
        street.people.put(p, STRENGTH, v);
        plan.stale = true;
        return was;
    }

    public int favour(int kind, int by, int of, int thing, int worth, int till) {
        boolean two = street.people.has(by) && street.people.has(of) && by != of;
        if (!two || !isWithin(kind, 0, KEEN) || !isThing(thing) || !isWithin(worth, 1, WORTH_MOST) || !isDay(till)) {
            return bad(BAD);
        }
        if (street.favours.isFull()) {
            return full();
        }
        plan.stale = true;
        return street.addFavour(kind, by, of, thing, worth, till);
    }

    public int need(int p, int thing, int size, int day) {
        if (!street.people.has(p) || !isThing(thing) || !isWithin(size, 1, WORTH_MOST) || !isDayToCome(day)) {
            return bad(BAD);
        }
        if (street.needs.isFull()) {
            return full();
        }
        plan.stale = true;
        return street.addNeed(p, thing, size, day);
    }

    public int contented() {
        plan.stale = true;
        return street.needs.empty();
    }

    public int type(long v, int n) {
        if (!isWithin(n, 1, TYPED_MOST)) {
            return bad(BAD);
        }
        if (text.length + n > TEXT_MOST) {
            return full();
        }
        for (int i = n - 1; i >= 0; i--) {
            text.add((int) (v >>> (BITS * i)) & 255);
        }
        return text.length;
    }

    public int clear() {
        int was = text.length;
        text.length = 0;
        return was;
    }

    public int read() {
        int items = reader.readStreet();
        if (reader.fault != NONE) {
            return -10 - reader.fault;
        }
        street.takeAllButRates(reader.draft);
        life.nights = 0;
        plan.stale = true;
        return items;
    }

    public int value(int f, int day) {
        if (!street.favours.has(f) || !isDay(day)) {
            return bad(BAD);
        }
        return street.valueOn(f, day);
    }

    public int of(int f) {
        if (!street.favours.has(f)) {
            return bad(BAD);
        }
        return street.favours.at(f, OF);
    }

    // ---- deeds

    public int pass(int f, int to) {
        if (!street.favours.has(f) || !street.people.has(to) || street.favours.at(f, OF) == to) {
            return bad(-10);
        }
        if (street.valueNow(f) == 0 || street.favours.at(f, KIND) == HOLY) {
            return no(-20);
        }
        boolean home = street.favours.at(f, BY) == to;
        street.favours.put(f, OF, home ? NONE : to);
        plan.stale = true;
        return home ? 0 : 1;
    }

    public int join(int f, int g) {
        if (!street.favours.has(f) || !street.favours.has(g) || f == g) {
            return bad(BAD);
        }
        if (!street.areAlike(f, g) || street.valueNow(f) == 0 || street.valueNow(g) == 0) {
            return no(NO);
        }
        plan.stale = true;
        return street.merge(f, g);
    }

    public int ask(int f) {
        if (!street.favours.has(f)) {
            return bad(BAD);
        }
        int worth = street.valueNow(f);
        int by = street.favours.at(f, BY);
        int done = street.people.at(by, DONE) + worth;
        if (worth == 0 || done > street.people.at(by, STRENGTH)) {
            return no(NO);
        }
        street.people.put(by, DONE, done);
        street.favours.put(f, OF, NONE);
        plan.stale = true;
        return worth;
    }

    public int night() {
        if (street.day >= LAST_DAY) {
            return no(NO);
        }
        life.keepNight();
        street.wake();
        return street.day;
    }

    public int undo() {
        if (life.nights == 0) {
            return no(NO);
        }
        life.goBack();
        plan.stale = true;
        return 1;
    }

    // ---- what is owed

    public int owes(int by, int of) {
        if (!street.people.has(by) || !street.people.has(of) || by == of) {
            return bad(-1000);
        }
        debts.addUp(street, street.day);
        return debts.between(by, of);
    }

    public int ring(int i) {
        if (i < NONE) {
            return bad(-10);
        }
        findRing();
        if (i == NONE) {
            return circle.length;
        }
        return i < circle.length ? circle.member(i) : -5;
    }

    public int cancel() {
        findRing();
        if (circle.length == 0) {
            return no(NO);
        }
        int gone = 0;
        for (int i = 0; i < circle.length; i++) {
            int next = i + 1 < circle.length ? i + 1 : 0;
            int f = street.cheapest(circle.member(i), circle.member(next));
            if (f != NONE) {
                street.favours.put(f, OF, NONE);
                gone++;
            }
        }
        plan.stale = true;
        return gone;
    }

    public int net(int p) {
        if (!street.people.has(p)) {
            return bad(-10000);
        }
        debts.addUp(street, street.day);
        return debts.balance(p);
    }

    public int fewest() {
        debts.addUp(street, street.day);
        return debts.fewestPayments();
    }

    public int met(int what) {
        if (!isWithin(what, 0, 1)) {
            return bad(BAD);
        }
        plan.make(street);
        return what == 0 ? plan.mostMet : plan.leastSpent;
    }

    public int plan(int need) {
        if (!street.needs.has(need)) {
            return bad(BAD);
        }
        plan.make(street);
        return plan.favourOf(need);
    }

    public int fire(int day, int what) {
        if (!isDay(day) || !isWithin(what, 0, 1)) {
            return bad(BAD);
        }
        debts.addUp(street, day);
        debts.callAllIn(street.people);
        return what == 0 ? debts.fallen : debts.rounds;
    }

    public int rate(int thing, int n) {
        if (!isThing(thing) || !isWithin(n, 0, ROUND_LAST)) {
            return bad(BAD);
        }
        return heldRate(street.rateNow(thing) + n * street.drift(thing));
    }

    public int set(int thing, int v) {
        if (!isThing(thing) || !isWithin(v, RATE_LEAST, RATE_MOST)) {
            return bad(BAD);
        }
        int was = street.rateNow(thing);
        street.setRate(thing, v);
        return was;
    }

    public int settles() {
        int last = 0;
        for (int thing = 0; thing < THINGS; thing++) {
            int round = lastChange(street.rateNow(thing), street.drift(thing));
            if (round == NONE) {
                return NONE;
            }
            last = Math.max(last, round);
        }
        return last;
    }

    public int told(int f, int from, int to) {
        if (!street.favours.has(f) || !street.people.has(from) || !street.people.has(to) || from == to) {
            return bad(BAD);
        }
        if (street.passes.isFull()) {
            return full();
        }
        return street.addPass(f, from, to);
    }

    public int forged() {
        for (int i = 0; i < street.passes.rows; i++) {
            if (street.passes.at(i, GIVER) != street.holderAhead(i)) {
                return i;
            }
        }
        return NONE;
    }

    public int forget() {
        return street.passes.empty();
    }

    public int goesOff(int day) {
        if (!isDayToCome(day)) {
            return bad(BAD);
        }
        int lost = 0;
        for (int f = 0; f < street.favours.rows; f++) {
            lost += Math.max(0, street.valueNow(f) - street.valueOn(f, day));
        }
        return lost;
    }

    public int kept(int w, int k) {
        if (!isWithin(w, 0, ODDS) || !isWithin(k, 0, NEEDS_MOST)) {
            return bad(BAD);
        }
        plan.make(street);
        int needs = plan.mostMet;
        long ways = 0;
        for (int j = k; j <= needs; j++) {
            ways += choices(needs, j) * power(w, j) * power(ODDS - w, needs - j);
        }
        fraction.become(ways, power(ODDS, needs));
        return 1;
    }

    // ---- what there is

    public long part(int what) {
        if (!isWithin(what, 0, 1)) {
            return bad(BAD);
        }
        return what == 0 ? fraction.above : fraction.below;
    }

    public int image(int i) {
        if (!isWithin(i, 0, 1)) {
            return bad(BAD);
        }
        imageAt(i).copyFrom(life);
        imageAt(i).isKept = true;
        return 1;
    }

    public int from(int i) {
        if (!isWithin(i, 0, 1)) {
            return bad(BAD);
        }
        if (!imageAt(i).isKept) {
            return no(NO);
        }
        life.copyFrom(imageAt(i));
        plan.stale = true;
        return 1;
    }

    public int status(int what) {
        switch (what) {
            case 0: return refusedBad;
            case 1: return refusedNo;
            case 2: return refusedFull;
            default: return bad(-1);
        }
    }

    public int count(int what) {
        return isWithin(what, 0, 6) ? howMany(what) : bad(BAD);
    }

    public long digest() {
        long h = 683;
        for (int what = 0; what <= 6; what++) {
            h = 31 * h + howMany(what);
        }
        h = street.people.mixedInto(h);
        h = street.favours.mixedInto(h);
        h = street.needs.mixedInto(h);
        h = street.passes.mixedInto(h);
        for (int thing = 0; thing < THINGS; thing++) {
            h = 31 * h + street.rateNow(thing);
        }
        h = 31 * h + fraction.above;
        return 31 * h + fraction.below;
    }

    private int howMany(int what) {
        switch (what) {
            case 0: return street.people.rows;
            case 1: return street.favours.rows;
            case 2: return street.needs.rows;
            case 3: return street.passes.rows;
            case 4: return street.day;
            case 5: return life.nights;
            default: return text.length;
        }
    }

    private History imageAt(int i) {
        return i == 0 ? imageZero : imageOne;
    }

    private void findRing() {
        debts.addUp(street, street.day);
        circle.find(debts);
    }

    private int bad(int answer) {
        refusedBad++;
        return answer;
    }

    private int no(int answer) {
        refusedNo++;
        return answer;
    }

    private int full() {
        refusedFull++;
        return FULL;
    }

    private boolean isDayToCome(int day) {
        return isWithin(day, street.day, LAST_DAY);
    }

    private static boolean isDay(int day) {
        return isWithin(day, 0, LAST_DAY);
    }

    private static boolean isThing(int thing) {
        return isWithin(thing, 0, THINGS - 1);
    }

    private static boolean isWithin(int v, int low, int high) {
        return v >= low && v <= high;
    }

    private static int heldRate(int v) {
        return Math.max(RATE_LEAST, Math.min(RATE_MOST, v));
    }

    /* A drift stays as it is from round to round, so a rate that once stands still stands for good. */
    private static int lastChange(int rate, int drift) {
        for (int round = 0; round <= ROUND_LAST; round++) {
            if (heldRate(rate + round * drift) == heldRate(rate + (round + 1) * drift)) {
                return round;
            }
        }
        return NONE;
    }

    private static long power(int base, int times) {
        long product = 1;
        for (int i = 0; i < times; i++) {
            product *= base;
        }
        return product;
    }

    private static long choices(int n, int k) {
        long ways = 1;
        for (int i = 1; i <= k; i++) {
            ways = ways * (n - k + i) / i;
        }
        return ways;
    }

    /** Rows of like width, filled from the first on; it looks at every index itself. */
    private static final class Table {
        final int width;
        final int[] cells;
        int rows;

        Table(int most, int width) {
            this.width = width;
            this.cells = new int[Math.max(0, most * width)];
        }

        boolean has(int row) {
            return row >= 0 && row < rows;
        }

        boolean isFull() {
            return (rows + 1) * width > cells.length;
        }

        int at(int row, int column) {
            int i = placeOf(row, column);
            return i >= 0 && i < cells.length ? cells[i] : 0;
        }

        void put(int row, int column, int v) {
            int i = placeOf(row, column);
            if (i >= 0 && i < cells.length) {
                cells[i] = v;
            }
        }

        void more(int row, int column, int v) {
            put(row, column, at(row, column) + v);
        }

        void fillRow(int row, int v) {
            for (int column = 0; column < width; column++) {
                put(row, column, v);
            }
        }

        /** The new row's number; its cells hold what they held before and are to be put. */
        int add() {
            if (isFull()) {
                return NONE;
            }
            rows++;
            return rows - 1;
        }

        int empty() {
            int had = rows;
            rows = 0;
            return had;
        }

        void copyFrom(Table other) {
            System.arraycopy(other.cells, 0, cells, 0, Math.min(other.cells.length, cells.length));
            rows = other.rows;
        }

        long mixedInto(long h) {
            int end = Math.min(rows * width, cells.length);
            for (int i = 0; i < end; i++) {
                h = 31 * h + cells[i];
            }
            return h;
        }

        private int placeOf(int row, int column) {
            boolean isInside = row >= 0 && row < rows && column >= 0 && column < width;
            return isInside ? row * width + column : NONE;
        }
    }

    /** All that a night may be undone to. A favour that is gone is one that nobody has: its OF is NONE. */
    private static final class Street {
        final Table people = new Table(PEOPLE_MOST, PERSON_WIDTH);
        final Table favours = new Table(FAVOURS_MOST, FAVOUR_WIDTH);
        final Table needs = new Table(NEEDS_MOST, NEED_WIDTH);
        final Table passes = new Table(PASSES_MOST, PASS_WIDTH);
        final Table rates = new Table(THINGS, 1);
        int day;

        Street() {
            rates.rows = THINGS;
        }

        void open(int n) {
            people.empty();
            for (int i = 0; i < n; i++) {
                int p = people.add();
                people.put(p, STRENGTH, STRENGTH_AT_FIRST);
                people.put(p, DONE, 0);
            }
            favours.empty();
            needs.empty();
            passes.empty();
            day = 0;
        }

        void copyFrom(Street other) {
            takeAllButRates(other);
            rates.copyFrom(other.rates);
        }

        void takeAllButRates(Street other) {
            people.copyFrom(other.people);
            favours.copyFrom(other.favours);
            needs.copyFrom(other.needs);
            passes.copyFrom(other.passes);
            day = other.day;
        }

        int addFavour(int kind, int by, int of, int thing, int worth, int till) {
            int f = favours.add();
            favours.put(f, KIND, kind);
            favours.put(f, BY, by);
            favours.put(f, OF, of);
            favours.put(f, THING, thing);
            favours.put(f, WORTH, worth);
            favours.put(f, TILL, till);
            favours.put(f, MADE, day);
            return f;
        }

        int addNeed(int p, int thing, int size, int when) {
            int need = needs.add();
            needs.put(need, NEEDER, p);
            needs.put(need, NEEDED, thing);
            needs.put(need, SIZE, size);
            needs.put(need, NEED_DAY, when);
            return need;
        }

        int addPass(int f, int giver, int taker) {
            int i = passes.add();
            passes.put(i, PASSED, f);
            passes.put(i, GIVER, giver);
            passes.put(i, TAKER, taker);
            return i;
        }

        void wake() {
            day++;
            for (int p = 0; p < people.rows; p++) {
                people.put(p, DONE, 0);
            }
        }

        int valueNow(int f) {
            return valueOn(f, day);
        }

        int valueOn(int f, int when) {
            if (favours.at(f, OF) == NONE) {
                return 0;
            }
            int worth = favours.at(f, WORTH);
            int till = favours.at(f, TILL);
            int plain = when <= till ? worth : 0;
            int age = Math.max(0, when - favours.at(f, MADE));
            switch (favours.at(f, KIND)) {
                case FADING: return Math.max(0, plain - age);
                case HOLY: return worth + Math.max(0, when - till) / 10;
                case UNBORN: return when < till ? 0 : worth;
                case KEEN: return Math.max(0, plain - 2 * age);
                default: return plain;
            }
        }

        boolean areAlike(int f, int g) {
            return favours.at(f, BY) == favours.at(g, BY)
                && favours.at(f, OF) == favours.at(g, OF)
                && favours.at(f, THING) == favours.at(g, THING);
        }

        int merge(int f, int g) {
            int worth = Math.min(WORTH_MOST, favours.at(f, WORTH) + favours.at(g, WORTH));
            favours.put(f, WORTH, worth);
            favours.put(f, TILL, Math.min(favours.at(f, TILL), favours.at(g, TILL)));
            favours.put(g, OF, NONE);
            return worth;
        }

        /** The favour by one of the other that is worth least now, above 0; NONE if there is none. */
        int cheapest(int by, int of) {
            int best = NONE;
            for (int f = 0; f < favours.rows; f++) {
                boolean fits = favours.at(f, BY) == by && favours.at(f, OF) == of && valueNow(f) > 0;
                if (fits && (best == NONE || valueNow(f) < valueNow(best))) {
                    best = f;
                }
            }
            return best;
        }

        /** Who has the favour of a told pass when its turn comes, if all told ahead of it were done. */
        int holderAhead(int pass) {
            int f = passes.at(pass, PASSED);
            int holder = favours.at(f, OF);
            for (int i = 0; i < pass; i++) {
                if (passes.at(i, PASSED) == f && holder != NONE) {
                    int taker = passes.at(i, TAKER);
                    holder = taker == favours.at(f, BY) ? NONE : taker;
                }
            }
            return holder;
        }

        int rateNow(int thing) {
            return rates.at(thing, 0);
        }

        void setRate(int thing, int v) {
            rates.put(thing, 0, v);
        }

        int drift(int thing) {
            int change = 0;
            for (int i = 0; i < needs.rows; i++) {
                if (needs.at(i, NEEDED) == thing) {
                    change++;
                }
            }
            for (int f = 0; f < favours.rows; f++) {
                if (favours.at(f, THING) == thing && valueNow(f) > 0) {
                    change--;
                }
            }
            return change;
        }
    }

    /** The street now and ahead of its last nights, the last one first. */
    private static final class History {
        final Street now = new Street();
        final Street last = new Street();
        final Street before = new Street();
        int nights;
        boolean isKept;

        void keepNight() {
            before.copyFrom(last);
            last.copyFrom(now);
            nights = Math.min(NIGHTS_MOST, nights + 1);
        }

        void goBack() {
            now.copyFrom(last);
            last.copyFrom(before);
            nights = Math.max(0, nights - 1);
        }

        void copyFrom(History other) {
            now.copyFrom(other.now);
            last.copyFrom(other.last);
            before.copyFrom(other.before);
            nights = other.nights;
        }
    }

    private static final class Text {
        final int[] bytes = new int[TEXT_MOST];
        int length;

        void add(int b) {
            if (length >= 0 && length < bytes.length) {
                bytes[length] = b;
                length++;
            }
        }

        int at(int i) {
            return i >= 0 && i < length && i < bytes.length ? bytes[i] : NONE;
        }
    }

    /** Reads a text into a draft, so that a fault leaves the street itself as it was. */
    private static final class Reader {
        private static final int END = 0, WORD = 1, NUMBER = 2, STOP = 3, WRONG = 4;

        final Text text = new Text();
        final Street draft = new Street();
        int fault;
        private int token;
        private int start;
        private int next;
        private int number;
        private int lastPerson;

        /** How many items there are; without use if there is a fault. */
        int readStreet() {
            fault = NONE;
            next = 0;
            step();
            readPeople();
            int items = 1;
            while (items <= TEXT_MOST && fault == NONE && token != END) {
                readItem();
                items++;
            }
            return items;
        }

        private void readPeople() {
            if (!isWord("people")) {
                fail();
                return;
            }
            step();
            int n = takeNumber(PEOPLE_LEAST, PEOPLE_MOST);
            takeStop();
            if (fault == NONE) {
                draft.open(n);
                lastPerson = n - 1;
            }
        }

        private void readItem() {
            if (isWord("strong")) {
                readStrong();
            } else if (isWord("favour") && !draft.favours.isFull()) {
                readFavour();
            } else if (isWord("need") && !draft.needs.isFull()) {
                readNeed();
            } else {
                fail();
            }
        }

        private void readStrong() {
            step();
            int p = takeNumber(0, lastPerson);
            int v = takeNumber(0, STRENGTH_MOST);
            takeStop();
            if (fault == NONE) {
                draft.people.put(p, STRENGTH, v);
            }
        }

        private void readFavour() {
            step();
            int kind = takeNumber(0, KEEN);
            int by = takeNumber(0, lastPerson);
            refuse(by);
            int of = takeNumber(0, lastPerson);
            int thing = takeNumber(0, THINGS - 1);
            int worth = takeNumber(1, WORTH_MOST);
            int till = takeNumber(0, LAST_DAY);
            takeStop();
            if (fault == NONE) {
                draft.addFavour(kind, by, of, thing, worth, till);
            }
        }

        private void readNeed() {
            step();
            int p = takeNumber(0, lastPerson);
            int thing = takeNumber(0, THINGS - 1);
            int size = takeNumber(1, WORTH_MOST);
            int day = takeNumber(0, LAST_DAY);
            takeStop();
            if (fault == NONE) {
                draft.addNeed(p, thing, size, day);
            }
        }

        private void refuse(int unlike) {
            if (token == NUMBER && number == unlike) {
                fail();
            }
        }

        private int takeNumber(int low, int high) {
            if (fault != NONE || token != NUMBER || number < low || number > high) {
                fail();
                return low;
            }
            int taken = number;
            step();
            return taken;
        }

        private void takeStop() {
            if (fault != NONE || token != STOP) {
                fail();
                return;
            }
            step();
        }

        /* Only the first fault is told; at the text's end the start of the token is its length. */
        private void fail() {
            if (fault == NONE) {
                fault = start;
            }
        }

        private void step() {
            start = next;
            while (start < text.length && text.at(start) == ' ') {
                start++;
            }
            int first = text.at(start);
            next = start + 1;
            if (first == NONE) {
                token = END;
            } else if (isWithin(first, 'a', 'z')) {
                token = WORD;
                next = endOfRun('a', 'z');
            } else if (isWithin(first, '0', '9')) {
                next = endOfRun('0', '9');
                takeFigures();
            } else {
                token = first == ';' ? STOP : WRONG;
            }
        }

        private int endOfRun(int low, int high) {
            int end = start;
            while (end < text.length && isWithin(text.at(end), low, high)) {
                end++;
            }
            return end;
        }

        private void takeFigures() {
            int last = text.at(next - 1) - '0';
            number = next - start == 2 ? 10 * (text.at(start) - '0') + last : last;
            token = next - start <= 2 ? NUMBER : WRONG;
        }

        private boolean isWord(String word) {
            if (token != WORD || next - start != word.length()) {
                return false;
            }
            for (int i = 0; i < word.length(); i++) {
                if (text.at(start + i) != word.charAt(i)) {
                    return false;
                }
            }
            return true;
        }
    }

    /** Who owes whom how much on one day, and what follows from that. */
    private static final class Debts {
        private final Table sums = new Table(PEOPLE_MOST, PEOPLE_MOST);
        private final int[] nets = new int[PEOPLE_MOST];
        private final int[] groups = new int[1 << PEOPLE_MOST];
        int people;
        int fallen;
        int rounds;

        void addUp(Street street, int day) {
            people = Math.min(PEOPLE_MOST, street.people.rows);
            sums.rows = people;
            for (int p = 0; p < people; p++) {
                sums.fillRow(p, 0);
            }
            for (int f = 0; f < street.favours.rows; f++) {
                sums.more(street.favours.at(f, BY), street.favours.at(f, OF), street.valueOn(f, day));
            }
        }

        int between(int by, int of) {
            return sums.at(by, of);
        }

        int balance(int p) {
            return doneFor(p, 0) - dueFrom(p);
        }

        /* People split into groups whose nets cancel; a group of m needs m less 1 payments, so the
           most groups make the fewest payments. */
        int fewestPayments() {
            for (int p = 0; p < people; p++) {
                nets[p] = balance(p);
            }
            int all = Math.min(1 << people, groups.length);
            for (int set = 1; set < all; set++) {
                groups[set] = mostGroups(set);
            }
            return people - groups[all - 1];
        }

        /* Any one of the set may be the last of the last group; the groups without him are known. */
        private int mostGroups(int set) {
            int most = 0;
            int sum = 0;
            for (int p = 0; p < people; p++) {
                int rest = set & ~(1 << p);
                if (rest < set) {
                    most = Math.max(most, groups[rest]);
                    sum += nets[p];
                }
            }
            return sum == 0 ? most + 1 : most;
        }

        void callAllIn(Table strengths) {
            fallen = 0;
            rounds = 0;
            for (int round = 0; round < people; round++) {
                int falling = 0;
                for (int p = 0; p < people; p++) {
                    int bit = 1 << p;
                    boolean stands = (fallen & bit) == 0;
                    if (stands && dueFrom(p) > strengths.at(p, STRENGTH) + doneFor(p, fallen)) {
                        falling |= bit;
                    }
                }
                if (falling == 0) {
                    return;
                }
                fallen |= falling;
                rounds++;
            }
        }

        private int dueFrom(int p) {
            int sum = 0;
            for (int q = 0; q < people; q++) {
                sum += between(p, q);
            }
            return sum;
        }

        private int doneFor(int p, int without) {
            int sum = 0;
            for (int q = 0; q < people; q++) {
                if ((without & (1 << q)) == 0) {
                    sum += between(q, p);
                }
            }
            return sum;
        }
    }

    /** The shortest ring, the first of these by numbers. */
    private static final class Circle {
        private final int[] members = new int[PEOPLE_MOST];
        int length;

        void find(Debts debts) {
            length = 0;
            for (int size = 2; size <= debts.people; size++) {
                for (int first = 0; first < debts.people; first++) {
                    members[0] = first;
                    if (closes(this, debts, 1, size)) {
                        length = size;
                        return;
                    }
                }
            }
        }

        int member(int i) {
            return i >= 0 && i < members.length ? members[i] : NONE;
        }

        /* The first member is the least, so each ring is met only once, as it is to be told. */
        private static boolean closes(Circle circle, Debts debts, int filled, int size) {
            int first = circle.member(0);
            int last = circle.member(filled - 1);
            if (filled < 1 || filled >= size || filled >= circle.members.length) {
                return debts.between(last, first) > 0;
            }
            for (int next = first + 1; next < debts.people; next++) {
                if (debts.between(last, next) > 0 && !circle.holds(next, filled)) {
                    circle.members[filled] = next;
                    if (closes(circle, debts, filled + 1, size)) {
                        return true;
                    }
                }
            }
            return false;
        }

        private boolean holds(int p, int filled) {
            for (int i = 0; i < filled; i++) {
                if (member(i) == p) {
                    return true;
                }
            }
            return false;
        }
    }

    /** Which needs are met by which favours; kept until the street changes. */
    private static final class Plan {
        boolean stale = true;
        int mostMet;
        int leastSpent;
        private int needs;
        private int favours;
        /* A favour's value for a need, 0 where it can not serve. */
        private final Table values = new Table(NEEDS_MOST, FAVOURS_MOST);
        /* What a person can still do on a need's day; needs of one day share the first one's row. */
        private final Table rooms = new Table(NEEDS_MOST, PEOPLE_MOST);
        private final int[] dayRows = new int[NEEDS_MOST];
        private final int[] doers = new int[FAVOURS_MOST];
        /* Of the needs from one on: how many can be met at all, and with how little. */
        private final int[] hopes = new int[NEEDS_MOST + 1];
        private final int[] costs = new int[NEEDS_MOST + 1];
        private final int[] tried = new int[NEEDS_MOST];
        private final int[] best = new int[NEEDS_MOST];

        void make(Street street) {
            if (!stale) {
                return;
            }
            needs = Math.min(NEEDS_MOST, street.needs.rows);
            favours = Math.min(FAVOURS_MOST, street.favours.rows);
            values.rows = needs;
            rooms.rows = needs;
            for (int f = 0; f < favours; f++) {
                doers[f] = street.favours.at(f, BY);
            }
            for (int need = 0; need < needs; need++) {
                layOut(street, need);
            }
            lookAhead();
            mostMet = NONE;
            leastSpent = 0;
            search(this, 0, 0, 0, 0);
            stale = false;
        }

        int favourOf(int need) {
            return need >= 0 && need < best.length ? best[need] : NONE;
        }

        private void layOut(Street street, int need) {
            int day = street.needs.at(need, NEED_DAY);
            int row = 0;
            while (row < need && street.needs.at(row, NEED_DAY) != day) {
                row++;
            }
            dayRows[need] = row;
            for (int p = 0; p < PEOPLE_MOST; p++) {
                rooms.put(need, p, street.people.at(p, STRENGTH));
            }
            for (int f = 0; f < favours; f++) {
                boolean fits = street.favours.at(f, OF) == street.needs.at(need, NEEDER)
                    && street.favours.at(f, THING) == street.needs.at(need, NEEDED);
                int worth = fits ? street.valueOn(f, day) : 0;
                values.put(need, f, worth >= street.needs.at(need, SIZE) ? worth : 0);
            }
        }

        private void lookAhead() {
            hopes[needs] = 0;
            costs[needs] = 0;
            for (int need = needs - 1; need >= 0; need--) {
                int least = 0;
                for (int f = 0; f < favours; f++) {
                    int v = values.at(need, f);
                    if (v > 0 && (least == 0 || v < least)) {
                        least = v;
                    }
                }
                hopes[need] = hopes[need + 1] + (least > 0 ? 1 : 0);
                costs[need] = costs[need + 1] + least;
            }
        }

        /* Plans come in the order in which the first of like ones is wanted, so a later one has to
           be truly better. The depth is the need's number, five at most. */
        private static void search(Plan plan, int need, int used, int met, int spent) {
            if (need < 0 || need >= plan.needs) {
                plan.keepIfBetter(met, spent);
                return;
            }
            if (plan.isNoBetter(met + plan.hopes[need], spent + plan.costs[need])) {
                return;
            }
            int row = plan.dayRows[need];
            for (int f = 0; f < plan.favours; f++) {
                int v = plan.values.at(need, f);
                boolean isFree = v > 0 && (used & (1 << f)) == 0;
                if (isFree && v <= plan.rooms.at(row, plan.doers[f])) {
                    plan.rooms.more(row, plan.doers[f], -v);
                    plan.tried[need] = f;
                    search(plan, need + 1, used | (1 << f), met + 1, spent + v);
                    plan.rooms.more(row, plan.doers[f], v);
                }
            }
            plan.tried[need] = NONE;
            search(plan, need + 1, used, met, spent);
        }

        private boolean isNoBetter(int met, int spent) {
            return met < mostMet || met == mostMet && spent >= leastSpent;
        }

        private void keepIfBetter(int met, int spent) {
            if (isNoBetter(met, spent)) {
                return;
            }
            mostMet = met;
            leastSpent = spent;
            for (int need = 0; need < needs; need++) {
                best[need] = tried[need];
            }
        }
    }

    private static final class Fraction {
        long above;
        long below = 1;

        void become(long newAbove, long newBelow) {
            long common = commonDivisor(newAbove, newBelow);
            if (common > 0) {
                above = newAbove / common;
                below = newBelow / common;
            }
        }

        /* Each two steps halve the numbers, so a hundred steps are more than a long can need twice over. */
        private static long commonDivisor(long a, long b) {
            for (int i = 0; i < 100 && b > 0; i++) {
                long rest = a % b;
                a = b;
                b = rest;
            }
            return a;
        }
    }
}
