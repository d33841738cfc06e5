import java.util.Random;

/** Drawn runs of calls, each answer held against the model's. */
public final class ModelTest {
    private static final Checks CHECKS = new Checks("ModelTest");
    private static final int[] ODD = {-1, 0, 1, 2, 3, 4, 5, 6, 10, 16, 99, 100, 120, 127, 128, 320, 324, 999999, 1000000,
        Integer.MAX_VALUE, Integer.MIN_VALUE, -100, -101, -201, 2147483642};
    private static final int[] WIDTHS = {4, 4, 2, 1};

    private final Random dice;
    private final EdgeMoves x = new EdgeMoves();
    private final Model model = new Model();
    private final int run;
    private int calls;

    private ModelTest(int run) {
        this.run = run;
        dice = new Random(run);
    }

    public static void main(String[] args) {
        for (int run = 0; run < 3000; run++) {
            ModelTest test = new ModelTest(run);
            switch (run % 4) {
                case 0 -> test.drawnCalls();
                case 1 -> test.typedTexts();
                case 2 -> test.drawnGraphs();
                default -> test.tightGraphs();
            }
        }
        CHECKS.end();
    }

    private long call(String name, int... numbers) {
        long got = Calls.make(x, name, numbers);
        long want = Calls.make(model, name, numbers);
        CHECKS.due("run " + run + ", call " + calls++ + ": " + Calls.told(name, numbers), got, want);
        return got;
    }

    /** Mostly a number below a bound, now and then one at its edge or far off. */
    private int below(int bound) {
        int which = dice.nextInt(40);
        if (which == 0) {
            return ODD[dice.nextInt(ODD.length)];
        }
        return which == 1 ? bound : which == 2 ? -1 : dice.nextInt(Math.max(bound, 1));
    }

    private int region(int bytes) {
        if (dice.nextInt(30) == 0) {
            return dice.nextInt(340) - 10;
        }
        int w = WIDTHS[dice.nextInt(WIDTHS.length)];
        return 10 * (dice.nextInt(bytes / w) * w) + w;
    }

    private void drawnCalls() {
        while (calls < 500) {
            switch (dice.nextInt(12)) {
                case 0 -> call("block");
                case 1, 2, 3 -> call("parameter", below((int) call("told", 4)), region(32));
                case 4, 5 -> call("edge", below((int) call("told", 4)), below((int) call("told", 4)), below(100));
                case 6, 7 -> call("argument", below(16), below(6), dice.nextInt(5) == 0 ? -1 - below(100) : region(32));
                case 8 -> call("weight", below(16), below(100));
                case 9 -> call("machine", below(5));
                default -> ask();
            }
            if (dice.nextInt(100) == 0) {
                call("anew");
            }
        }
        call("digest");
    }

    private void ask() {
        switch (dice.nextInt(18)) {
            case 0 -> call("of", below(16), below(5));
            case 1 -> call("about", below(10), below(3));
            case 2 -> call("region", below(10), below(7));
            case 3 -> call("given", below(16), below(7));
            case 4 -> call("steps", below(16), below(5));
            case 5 -> call("step", below(16), below(9), below(3));
            case 6 -> call("cost", below(16));
            case 7 -> call("rings", below(16), below(3));
            case 8 -> call("cheapest", below(16), below(2));
            case 9 -> call("free", below(16), 1 << below(3));
            case 10 -> call("tail", below(10));
            case 11 -> call("run", below(16), below(1000000), below(2));
            case 12 -> call("whole", below(4));
            case 13 -> call("dearest");
            case 14 -> call("reach", below(10), below(10));
            case 15 -> call("told", below(7));
            case 16 -> call("free", below(16), below(5));
            default -> call("digest");
        }
    }

    private void askAllOf(int e) {
        for (int what = 0; what < 5; what++) {
            call("steps", e, what);
            call("of", e, what);
        }
        int seed = dice.nextInt(1000000);
        long atOnce = call("run", e, seed, 0);
        CHECKS.due("run " + run + ": step by step", call("run", e, seed, 1), atOnce);
        for (int k = 0; k < 10 && call("step", e, k, 0) >= 0; k++) {
            call("step", e, k, 1);
            call("step", e, k, 2);
        }
        for (int what = 0; what < 3; what++) {
            call("rings", e, what);
            call("free", e, 1 << what);
        }
        call("cost", e);
        call("cheapest", e, 0);
        call("cheapest", e, 1);
    }

    private void drawnGraphs() {
        call("draw", dice.nextInt(1000000), dice.nextInt(7), dice.nextInt(17));
        call("digest");
        call("machine", dice.nextInt(5));
        for (int what = 0; what < 4; what++) {
            call("whole", what);
        }
        call("dearest");
        for (int b = 0; b < 8; b++) {
            call("tail", b);
            call("reach", dice.nextInt(8), b);
        }
        for (int e = 0; e < call("told", 5) && calls < 400; e++) {
            askAllOf(e);
        }
        call("draw", below(1000000), below(7), below(17));
        call("digest");
    }

    /** Few places and like widths, so that there are rings, and several edges with like tails. */
    private void tightGraphs() {
        int w = WIDTHS[dice.nextInt(WIDTHS.length)];
        int n = 2 + dice.nextInt(5);
        call("block");
        call("block");
        for (int i = 0; i < 8; i++) {
            call("parameter", 1, 10 * w * dice.nextInt(n) + w);
        }
        int size = (int) call("about", 1, 0);
        for (int e = 0; e < 3; e++) {
            call("edge", 0, dice.nextInt(8) == 0 ? 0 : 1, dice.nextInt(4));
            int shift = dice.nextInt(n);
            for (int i = 0; i < size; i++) {
                int place = dice.nextInt(3) == 0 ? dice.nextInt(n) : ((int) call("region", 1, i) / 10 / w + shift) % n;
                call("argument", e, i, dice.nextInt(12) == 0 ? -1 - dice.nextInt(100) : 10 * w * place + w);
            }
        }
        call("machine", dice.nextInt(5));
        call("tail", 1);
        call("dearest");
        call("whole", 0);
        call("whole", 3);
        for (int e = 0; e < 3; e++) {
            askAllOf(e);
            movesAreFewest(e);
        }
    }

    /** By the spare place alone an edge takes as many moves as are open, and one for each ring. */
    private void movesAreFewest(int e) {
        call("machine", 0);
        long rings = call("rings", e, 0);
        long open = 0;
        for (int i = 0; i < call("about", (int) call("of", e, 1), 0); i++) {
            long argument = call("given", e, i);
            open += argument >= 0 && argument != call("region", (int) call("of", e, 1), i) ? 1 : 0;
        }
        CHECKS.due("run " + run + ": moves of edge " + e, call("steps", e, 1), open + rings);
        CHECKS.due("run " + run + ": moves to the spare place of edge " + e, call("steps", e, 4), rings);
    }

    private void typedTexts() {
        while (calls < 380) {
            String text = dice.nextInt(3) == 0 ? spoilt(drawnText()) : drawnText();
            call("clear");
            for (int i = 0; i < text.length() && i < 125; i++) {
                call("type", text.charAt(i));
            }
            call("read");
            call("digest");
        }
    }

    private String blanks() {
        return " ".repeat(dice.nextInt(8) == 0 ? 2 : 0);
    }

    private String drawnText() {
        StringBuilder text = new StringBuilder();
        int blocks = 1 + dice.nextInt(3);
        int[][] parameters = new int[blocks][];
        for (int b = 0; b < blocks; b++) {
            parameters[b] = new int[dice.nextInt(4)];
            text.append(blanks()).append('b');
            for (int i = 0; i < parameters[b].length; i++) {
                int w = WIDTHS[dice.nextInt(WIDTHS.length)];
                parameters[b][i] = dice.nextInt(15) == 0 ? region(12) : 10 * (4 * i) + w;
                text.append(' ').append(blanks()).append(parameters[b][i]);
            }
            text.append(blanks()).append(';');
        }
        for (int e = dice.nextInt(5); e > 0; e--) {
            int to = dice.nextInt(20) == 0 ? blocks : dice.nextInt(blocks);
            text.append('e').append(blanks()).append(dice.nextInt(blocks)).append(' ').append(to);
            text.append(' ').append(dice.nextInt(dice.nextInt(12) == 0 ? 120 : 100)).append(blanks());
            if (to < blocks && dice.nextInt(4) != 0) {
                text.append(':').append(drawnArguments(parameters[to]));
            }
            text.append(blanks()).append(';');
        }
        return text.append(blanks()).toString();
    }

    private String drawnArguments(int[] parameters) {
        StringBuilder text = new StringBuilder();
        for (int parameter : parameters) {
            if (dice.nextInt(4) == 0) {
                text.append('#').append(dice.nextInt(dice.nextInt(12) == 0 ? 1100 : 100));
            } else {
                text.append(' ').append(40 * dice.nextInt(8) + parameter % 10);
            }
        }
        return text.toString();
    }

    private String spoilt(String text) {
        StringBuilder spoilt = new StringBuilder(text);
        int place = dice.nextInt(text.length());
        char sign = "be:;# 0123456789\tx".charAt(dice.nextInt(18));
        switch (dice.nextInt(4)) {
            case 0 -> spoilt.setCharAt(place, sign);
            case 1 -> spoilt.insert(place, sign);
            case 2 -> spoilt.deleteCharAt(place);
            default -> spoilt.setLength(place);
        }
        return spoilt.toString();
    }
}
