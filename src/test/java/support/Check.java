/** Counts and prints answers that are not the ones that are due. */
final class Check {
    private static final int PRINTED_MOST = 40;
    private int wrong;
    private int seen;

    void due(String call, long got, long want) {
        seen++;
        if (got != want) {
            wrong++;
            if (wrong <= PRINTED_MOST) {
                System.out.println(call + " answered " + got + ", due is " + want);
            }
        }
    }

    void holds(String claim, boolean holds) {
        due(claim, holds ? 1 : 0, 1);
    }

    boolean failed() {
        return wrong > 0;
    }

    /** Ends the program, with exit code 1 if an answer was wrong. */
    void end() {
        System.out.println(wrong == 0 ? seen + " answers are as due" : wrong + " of " + seen + " answers are not as due");
        if (wrong != 0) {
            System.exit(1);
        }
    }

    /** Feeds a text, as far as there is room. */
    static void feed(FilmCans x, String text) {
        for (int i = 0; i < text.length(); i++) {
            x.feed(text.charAt(i));
        }
    }

    /** A new object that has read the text. */
    static FilmCans of(String text) {
        FilmCans x = new FilmCans();
        feed(x, text);
        x.book();
        return x;
    }
}
