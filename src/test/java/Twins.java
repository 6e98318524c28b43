import java.util.ArrayList;
import java.util.List;

/**
 * Two objects that lived the same past; one of them is called once more. Behind that call all that can be asked of
 * the two must be alike: what is there now, what each undo and each image brings back, and what THE TEXT tells.
 */
final class Twins {
    interface Past {
        void live(FavoursGoOff x);
    }

    interface Call {
        long on(FavoursGoOff x);
    }

    private static final int NOTHING = -1, BAD = 0, NO = 1, FULL = 2;

    private final Answers answers;
    private final String name;
    private final Past past;
    private final List<Long> alone;

    Twins(Answers answers, String name, Past past) {
        this.answers = answers;
        this.name = name;
        this.past = past;
        this.alone = allOf(lived());
    }

    void bad(String call, Call c, long due) {
        called(call, c, due, BAD);
    }

    void no(String call, Call c, long due) {
        called(call, c, due, NO);
    }

    void full(String call, Call c) {
        called(call, c, -4, FULL);
    }

    /** A call that only asks: not even STATUS is another one behind it. */
    void asked(String call, Call c, long due) {
        called(call, c, due, NOTHING);
    }

    /** The same, where the answer itself is held against the document elsewhere. */
    void asked(String call, Call c) {
        called(call, c, c.on(lived()), NOTHING);
    }

    private void called(String call, Call c, long due, int reason) {
        String there = name + ": " + call;
        FavoursGoOff one = lived();
        FavoursGoOff other = lived();
        answers.due(there, c.on(other), due);
        for (int what = BAD; what <= FULL; what++) {
            answers.due(there + ": status(" + what + ") more", other.status(what) - one.status(what), what == reason ? 1 : 0);
        }
        List<Long> all = allOf(other);
        answers.due(there + ": answers behind it", all.size(), alone.size());
        int unlike = -1;
        for (int i = 0; i < Math.min(all.size(), alone.size()) && unlike < 0; i++) {
            unlike = all.get(i).equals(alone.get(i)) ? -1 : i;
        }
        answers.due(there + ": nothing else changed (the first that did)", unlike, -1);
    }

    private FavoursGoOff lived() {
        FavoursGoOff x = new FavoursGoOff();
        past.live(x);
        return x;
    }

    /** Some 270 calls, so that a past may have some 240. */
    private static List<Long> allOf(FavoursGoOff x) {
        List<Long> all = new ArrayList<>();
        back(x, all);
        for (int i = 0; i < 2; i++) {
            all.add((long) x.from(i));
            back(x, all);
        }
        all.add((long) x.read());
        look(x, all);
        all.add((long) x.clear());
        return all;
    }

    private static void back(FavoursGoOff x, List<Long> all) {
        look(x, all);
        for (int i = 0; i < 2; i++) {
            all.add((long) x.undo());
            look(x, all);
        }
        all.add((long) x.undo());
    }

    private static void look(FavoursGoOff x, List<Long> all) {
        all.add(x.digest());
        for (int what = 0; what < 2; what++) {
            all.add((long) x.met(what));
            all.add((long) x.fire(50, what));
            all.add(x.part(what));
        }
        for (int need = 0; need < 3; need++) {
            all.add((long) x.plan(need));
        }
        for (int i = -1; i < 2; i++) {
            all.add((long) x.ring(i));
            all.add((long) x.of(i + 1));
        }
        all.add((long) x.net(0));
        all.add((long) x.owes(0, 1));
        all.add((long) x.fewest());
        all.add((long) x.forged());
        all.add((long) x.settles());
        all.add((long) x.rate(0, 3));
        all.add((long) x.goesOff(99));
    }
}
