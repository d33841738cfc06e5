/** A new object whose every call has an answer that is due, and that is looked at as a whole where it may not change. */
final class Watch {
    private static final int BAD = -202;
    private static final int MOST_CALLS = 512;

    private final Checks checks;
    private final String sentence;
    private final EdgeMoves x = new EdgeMoves();
    private int calls;
    private int values;
    private long digest;
    private boolean isLookedAt;

    Watch(Checks checks, String sentence) {
        this.checks = checks;
        this.sentence = sentence;
    }

    private long call(String name, int... numbers) {
        calls++;
        if (calls == MOST_CALLS + 1) {
            checks.holds(sentence + ": an object is used for at most " + MOST_CALLS + " calls", false);
        }
        return Calls.make(x, name, numbers);
    }

    long ask(String name, int... numbers) {
        isLookedAt = false;
        return call(name, numbers);
    }

    /** An answer of a call that may change the object. */
    Watch due(long want, String name, int... numbers) {
        checks.due(sentence + ": " + Calls.told(name, numbers), ask(name, numbers), want);
        return this;
    }

    /** An answer of a call that is not refused and changes nothing. */
    Watch same(long want, String name, int... numbers) {
        look();
        checkCall(want, name, numbers);
        return this;
    }

    /** A call that is refused, and changes nothing but how often. */
    Watch refused(int want, String name, int... numbers) {
        look();
        digest += power(values - 1 - (BAD - want));
        checkCall(want, name, numbers);
        return this;
    }

    private void checkCall(long want, String name, int... numbers) {
        String told = sentence + ": " + Calls.told(name, numbers);
        checks.due(told, call(name, numbers), want);
        checks.due(told + ", the digest behind it", call("digest"), digest);
    }

    private void look() {
        if (isLookedAt) {
            return;
        }
        values = countValues();
        digest = call("digest");
        isLookedAt = true;
    }

    /** How many values a digest is made of. */
    private int countValues() {
        int count = 7;
        for (int b = (int) call("told", 4) - 1; b >= 0; b--) {
            count += 1 + (int) call("about", b, 0);
        }
        for (int e = (int) call("told", 5) - 1; e >= 0; e--) {
            count += 3 + (int) call("about", (int) call("of", e, 1), 0);
        }
        return count;
    }

    private static long power(int exponent) {
        long power = 1;
        for (int i = 0; i < exponent; i++) {
            power *= 31;
        }
        return power;
    }

    /** Puts a text in the place of the one that was there. */
    Watch type(String text) {
        ask("clear");
        for (int i = 0; i < text.length(); i++) {
            ask("type", text.charAt(i));
        }
        return this;
    }

    /** Puts a text in the place of the one that was there and reads it; it is to be as told. */
    Watch read(String text) {
        type(text);
        long items = text.chars().filter(c -> c == ';').count();
        checks.due(sentence + ": read() of \"" + text + "\"", ask("read"), items);
        return this;
    }

    /** The steps of an edge one behind the other, each by its sort, where it goes to and where it is from. */
    Watch steps(int e, int... numbers) {
        due(numbers.length / 3, "steps", e, 0);
        for (int i = 0; i < numbers.length; i++) {
            due(numbers[i], "step", e, i / 3, i % 3);
        }
        return due(-201, "step", e, numbers.length / 3, 0);
    }
}
