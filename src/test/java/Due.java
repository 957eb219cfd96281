/** Counts the answers of one test that are not as due. */
final class Due {
    private final String name;
    private String sentence = "";
    private int asked = 0;
    private int wrong = 0;

    Due(String name) {
        this.name = name;
    }

    /** What is asked from here on is asked for some words of the document. */
    void sentence(String words) {
        sentence = " (" + words + ")";
    }

    void same(String call, long got, long want) {
        asked++;
        if (got != want) {
            wrong++;
            if (wrong <= 40) {
                System.out.println(name + ": " + call + " answered " + got + ", due is " + want + sentence);
            }
        }
    }

    void yes(String what, boolean is) {
        same(what, is ? 1 : 0, 1);
    }

    boolean isGood() {
        return wrong == 0;
    }

    /** Ends the test with exit code 1 if an answer was wrong. */
    void finish() {
        System.out.println(name + ": " + asked + " answers, " + wrong + " wrong");
        if (wrong != 0) {
            System.exit(1);
        }
    }

    /** Brings a text of bytes on the tape, which must be empty. */
    static void type(HullEars ears, String text) {
        for (int from = 0; from < text.length(); from += 20) {
            int[] numbers = new int[5];
            for (int i = 0; i < 20; i++) {
                int sign = from + i < text.length() ? text.charAt(from + i) : 0;
                numbers[i / 4] = numbers[i / 4] << 8 | sign;
            }
            ears.feed(numbers[0], numbers[1], numbers[2], numbers[3], numbers[4]);
        }
        ears.end(text.length());
    }

    /** What law() answers of a text. */
    static int law(HullEars ears, String text) {
        type(ears, text);
        return ears.law();
    }
}
