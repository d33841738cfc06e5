/** Counts the answers that are not as due, and says which they are. */
final class Checks {
    private final String test;
    private int wrong;
    private int asked;

    Checks(String test) {
        this.test = test;
    }

    void due(String call, long got, long want) {
        asked++;
        if (got != want) {
            wrong++;
            if (wrong <= 50) {
                System.out.println(test + ": " + call + " answered " + got + ", due is " + want);
            }
        }
    }

    void holds(String what, boolean is) {
        due(what, is ? 1 : 0, 1);
    }

    /** Puts a text in the place of the one that was there, and reads it. */
    static int readText(EdgeMoves x, String text) {
        x.clear();
        for (int i = 0; i < text.length(); i++) {
            x.type(text.charAt(i));
        }
        return x.read();
    }

    /** A new object that has read a text. */
    static EdgeMoves of(String text) {
        EdgeMoves x = new EdgeMoves();
        readText(x, text);
        return x;
    }

    void end() {
        System.out.println(test + ": " + asked + " answers, " + wrong + " not as due");
        if (wrong != 0 || asked == 0) {
            System.exit(1);
        }
    }
}
