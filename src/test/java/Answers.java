/** Counts and prints the answers that are not as due; one object for each test class. */
final class Answers {
    private int wrong;
    private int asked;

    void due(String call, long got, long want) {
        asked++;
        if (got != want) {
            wrong++;
            System.out.println("WRONG " + call + ": answered " + got + ", due is " + want);
        }
    }

    void end(String name) {
        System.out.println(name + ": " + asked + " answers, " + wrong + " wrong");
        if (wrong != 0 || asked == 0) {
            System.exit(1);
        }
    }

    /** Puts a text of plain signs in the place of THE TEXT. */
    static void write(FavoursGoOff x, String text) {
        x.clear();
        for (int i = 0; i < text.length(); i++) {
            x.type(text.charAt(i), 1);
        }
    }

    static int readText(FavoursGoOff x, String text) {
        write(x, text);
        return x.read();
    }
}
