/** Counts the answers that are not the ones that are due. */
final class Due {
    private int wrong = 0;
    private int asked = 0;
    private String sentence = "";

    /** The sentence of the document that the next answers are held against: told when one is wrong. */
    void sentence(String heading, String words) {
        sentence = heading + " \"" + words + "\": ";
    }

    void is(String call, long got, long want) {
        asked++;
        if (got != want) {
            wrong++;
            System.out.println(sentence + call + " answered " + got + ", due is " + want);
        }
    }

    void holds(String what, boolean so) {
        asked++;
        if (!so) {
            wrong++;
            System.out.println(sentence + "does not hold: " + what);
        }
    }

    boolean anyWrong() {
        return wrong != 0;
    }

    void end(String test) {
        System.out.println(test + ": " + asked + " answers, " + wrong + " not as due");
        if (wrong != 0 || asked == 0) {
            System.exit(1);
        }
    }
}
