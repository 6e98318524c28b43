/** Counts and prints the answers that are not as due; one object for each test class. */
final class Answers {
    static final int LOW = Integer.MIN_VALUE, HIGH = Integer.MAX_VALUE;

    private int wrong;
    private int asked;
    private int sentences;
    private String sentence = "";

    /** The document's words that the answers from here on are held against. */
    void sentence(String words) {
        sentences++;
        sentence = "\"" + words + "\" ";
    }

    void due(String call, long got, long want) {
        asked++;
        if (got != want) {
            wrong++;
            System.out.println("WRONG " + sentence + call + ": answered " + got + ", due is " + want);
        }
    }

    void end(String name) {
        String of = sentences == 0 ? "" : " of " + sentences + " sentences";
        System.out.println(name + ": " + asked + " answers" + of + ", " + wrong + " wrong");
        if (wrong != 0 || asked == 0) {
            System.exit(1);
        }
    }

    /** The numbers just outside low .. high, and those as far off as can be. */
    static int[] outside(int low, int high) {
        return new int[] {low - 1, high + 1, LOW, HIGH};
    }

    /** Puts a text of plain signs in the place of THE TEXT. */
    static void write(FavoursGoOff x, String text) {
        x.clear();
        append(x, text);
    }

    /** Types a text of signs 0 to 255 behind what THE TEXT has, eight bytes a call. */
    static void append(FavoursGoOff x, String text) {
        for (int at = 0; at < text.length(); at += 8) {
            int n = Math.min(8, text.length() - at);
            long v = 0;
            for (int i = 0; i < n; i++) {
                v = v << 8 | text.charAt(at + i);
            }
            x.type(v, n);
        }
    }

    static int readText(FavoursGoOff x, String text) {
        write(x, text);
        return x.read();
    }

    static void nights(FavoursGoOff x, int n) {
        for (int i = 0; i < n; i++) {
            x.night();
        }
    }
}
