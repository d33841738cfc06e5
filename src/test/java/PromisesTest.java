/** Each promise of the document by its number: ordinary inputs, the edges that it names, wrong inputs. */
public final class PromisesTest {
    private static final int NONE = -201, BAD = -202, NO = -203, FULL = -204;
    private static final int LEAST = Integer.MIN_VALUE, MOST = Integer.MAX_VALUE;
    private static final Checks CHECKS = new Checks("PromisesTest");

    private static final String SIX = "b;b 4 44 84 124 164 204;";

    public static void main(String[] args) {
        newObject();
        anewRemoves();
        blocksCome();
        parametersCome();
        edgesCome();
        argumentsBecome();
        weightsBecome();
        machinesBecome();
        ofEdges();
        clearEdges();
        whereStepsGo();
        aboutBlocks();
        regionsOfBlocks();
        givenArguments();
        textsGrow();
        textsAreCleared();
        textsAreRead();
        faultsOfBlocks();
        faultsOfEdges();
        faultsOfArguments();
        faultsChangeNothing();
        stepsAreCounted();
        movesInOrder();
        ringsByTheSpare();
        ringsByChanges();
        valuesMoveOn();
        settingsLast();
        stepRefusals();
        costs();
        ringsAreCounted();
        cheapestKinds();
        freeRegions();
        tails();
        runs();
        wholes();
        dearestEdges();
        reaches();
        draws();
        toldCounts();
        digests();
        CHECKS.end();
    }

    private static void due(String call, long got, long want) {
        CHECKS.due(call, got, want);
    }

    private static void standing(EdgeMoves x, int bads, int noes, int fulls) {
        due("told(0)", x.told(0), bads);
        due("told(1)", x.told(1), noes);
        due("told(2)", x.told(2), fulls);
    }

    private static void stepIs(EdgeMoves x, int e, int k, int sort, int goal, int source) {
        due("step(" + e + ", " + k + ", 0)", x.step(e, k, 0), sort);
        due("step(" + e + ", " + k + ", 1)", x.step(e, k, 1), goal);
        due("step(" + e + ", " + k + ", 2)", x.step(e, k, 2), source);
    }

    // 1
    private static void newObject() {
        EdgeMoves x = new EdgeMoves();
        for (int what = 0; what < 7; what++) {
            due("1 told(" + what + ")", x.told(what), 0);
        }
        due("1 digest()", x.digest(), 52631630794343L);
        due("1 about(0, 0)", x.about(0, 0), BAD);
        due("1 of(0, 0)", x.of(0, 0), BAD);
        due("1 NONE", EdgeMoves.NONE, NONE);
        due("1 BAD", EdgeMoves.BAD, BAD);
        due("1 NO", EdgeMoves.NO, NO);
        due("1 FULL", EdgeMoves.FULL, FULL);
    }

    // 2
    private static void anewRemoves() {
        EdgeMoves x = Checks.of("b 4;b;e0 0 5;e0 1 6;e1 0 7:#3;");
        x.machine(3);
        due("2 anew()", x.anew(), 3);
        due("2 anew() again", x.anew(), 0);
        due("2 blocks", x.told(4), 0);
        due("2 edges", x.told(5), 0);
        due("2 the text stays", x.told(3), 30);
        due("2 the kind stays", x.told(6), 3);
        due("2 block()", x.block(), 0);
        due("2 no parameters of the one before", x.about(0, 0), 0);
        due("2 edge(0, 0, 1)", x.edge(0, 0, 1), 0);
        due("2 parameter(0, 84)", x.parameter(0, 84), 0);
        due("2 given(0, 0)", x.given(0, 0), 84);
    }

    // 3
    private static void blocksCome() {
        EdgeMoves x = new EdgeMoves();
        for (int b = 0; b < 10; b++) {
            due("3 block()", x.block(), b);
        }
        due("3 block() beyond", x.block(), FULL);
        due("3 blocks", x.told(4), 10);
        standing(x, 0, 0, 1);
    }

    // 4
    private static void parametersCome() {
        EdgeMoves x = Checks.of("b;b;e0 0 1;e0 1 1;e1 0 1;");
        due("4 parameter(0, 44)", x.parameter(0, 44), 0);
        due("4 given(0, 0)", x.given(0, 0), 44);
        due("4 given(1, 0)", x.given(1, 0), NONE);
        due("4 given(2, 0)", x.given(2, 0), 44);
        int[] bad = {-1, 0, 3, 5, 10, 12, 14, 24, 34, 62 + 2, 304, 312, 314, 320, 321, 322, 324, 4 + 1000, MOST, LEAST};
        for (int region : bad) {
            due("4 parameter(0, " + region + ")", x.parameter(0, region), BAD);
        }
        due("4 parameter(2, 4)", x.parameter(2, 4), BAD);
        due("4 parameter(-1, 4)", x.parameter(-1, 4), BAD);
        standing(x, bad.length + 2, 0, 0);
        int[] taken = {44, 42, 62, 41, 51, 61, 71};
        for (int region : taken) {
            due("4 parameter(0, " + region + ")", x.parameter(0, region), NO);
        }
        due("4 parameter(0, 311)", x.parameter(0, 311), 1);
        due("4 parameter(0, 284)", x.parameter(0, 284), NO);
        due("4 parameter(0, 302)", x.parameter(0, 302), NO);
        due("4 parameter(0, 301)", x.parameter(0, 301), 2);
        due("4 parameter(0, 1)", x.parameter(0, 1), 3);
        due("4 parameter(0, 2)", x.parameter(0, 2), NO);
        due("4 parameter(0, 22)", x.parameter(0, 22), 4);
        due("4 parameter(0, 84)", x.parameter(0, 84), 5);
        due("4 full, but NO first", x.parameter(0, 84), NO);
        due("4 full, but BAD first", x.parameter(0, 85), BAD);
        due("4 full", x.parameter(0, 124), FULL);
        due("4 like in another block", x.parameter(1, 44), 0);
        due("4 region(0, 4)", x.region(0, 4), 22);
        due("4 given(2, 5)", x.given(2, 5), 84);
        due("4 given(1, 0)", x.given(1, 0), 44);
    }

    // 5
    private static void edgesCome() {
        EdgeMoves x = Checks.of("b 4 42;b;");
        due("5 edge(0, 2, 0)", x.edge(0, 2, 0), BAD);
        due("5 edge(2, 0, 0)", x.edge(2, 0, 0), BAD);
        due("5 edge(-1, 0, 0)", x.edge(-1, 0, 0), BAD);
        due("5 edge(0, -1, 0)", x.edge(0, -1, 0), BAD);
        due("5 edge(0, 0, -1)", x.edge(0, 0, -1), BAD);
        due("5 edge(0, 0, 100)", x.edge(0, 0, 100), BAD);
        for (int e = 0; e < 16; e++) {
            due("5 edge", x.edge(1, e % 2, 99 - e), e);
        }
        due("5 full, but BAD first", x.edge(1, 0, 100), BAD);
        due("5 full", x.edge(1, 0, 99), FULL);
        standing(x, 7, 0, 1);
        due("5 of(4, 0)", x.of(4, 0), 1);
        due("5 of(4, 1)", x.of(4, 1), 0);
        due("5 of(4, 2)", x.of(4, 2), 95);
        due("5 given(4, 0)", x.given(4, 0), 4);
        due("5 given(4, 1)", x.given(4, 1), 42);
        due("5 given(4, 2)", x.given(4, 2), NONE);
        due("5 given(5, 0)", x.given(5, 0), NONE);
    }

    // 6
    private static void argumentsBecome() {
        EdgeMoves x = Checks.of("b 4 42 81;b;e1 0 0;e1 1 0;");
        due("6 argument(0, 0, 284)", x.argument(0, 0, 284), 4);
        due("6 argument(0, 0, -1)", x.argument(0, 0, -1), 284);
        due("6 argument(0, 0, -100)", x.argument(0, 0, -100), -1);
        due("6 argument(0, 0, 4)", x.argument(0, 0, 4), -100);
        due("6 argument(0, 1, 2)", x.argument(0, 1, 2), 42);
        due("6 argument(0, 2, 11)", x.argument(0, 2, 11), 81);
        int[] bad = {-101, LEAST, MOST, 2, 1, 42, 0, 3, 14, 324};
        for (int what : bad) {
            due("6 argument(0, 0, " + what + ")", x.argument(0, 0, what), BAD);
        }
        due("6 argument(0, 1, 4)", x.argument(0, 1, 4), BAD);
        due("6 argument(0, 1, 1)", x.argument(0, 1, 1), BAD);
        due("6 argument(0, 2, 2)", x.argument(0, 2, 2), BAD);
        due("6 argument(0, 3, -1)", x.argument(0, 3, -1), BAD);
        due("6 argument(0, 6, -1)", x.argument(0, 6, -1), BAD);
        due("6 argument(0, -1, -1)", x.argument(0, -1, -1), BAD);
        due("6 argument(1, 0, -1)", x.argument(1, 0, -1), BAD);
        due("6 argument(2, 0, 4)", x.argument(2, 0, 4), BAD);
        due("6 argument(-1, 0, 4)", x.argument(-1, 0, 4), BAD);
        standing(x, bad.length + 9, 0, 0);
        due("6 given(0, 0)", x.given(0, 0), 4);
        due("6 given(0, 1)", x.given(0, 1), 2);
        due("6 given(0, 2)", x.given(0, 2), 11);
    }

    // 7
    private static void weightsBecome() {
        EdgeMoves x = Checks.of("b;e0 0 5;e0 0 6;");
        due("7 weight(1, 99)", x.weight(1, 99), 6);
        due("7 weight(1, 0)", x.weight(1, 0), 99);
        due("7 weight(1, 100)", x.weight(1, 100), BAD);
        due("7 weight(1, -1)", x.weight(1, -1), BAD);
        due("7 weight(2, 1)", x.weight(2, 1), BAD);
        due("7 weight(-1, 1)", x.weight(-1, 1), BAD);
        due("7 of(1, 2)", x.of(1, 2), 0);
        due("7 of(0, 2)", x.of(0, 2), 5);
        standing(x, 4, 0, 0);
    }

    // 8
    private static void machinesBecome() {
        EdgeMoves x = new EdgeMoves();
        due("8 machine(4)", x.machine(4), 0);
        due("8 machine(5)", x.machine(5), BAD);
        due("8 machine(-1)", x.machine(-1), BAD);
        due("8 machine(0)", x.machine(0), 4);
        due("8 machine(2)", x.machine(2), 0);
        due("8 told(6)", x.told(6), 2);
        standing(x, 2, 0, 0);
    }

    // 9
    private static void ofEdges() {
        EdgeMoves x = Checks.of("b;b 4;b;e1 2 33;");
        due("9 from", x.of(0, 0), 1);
        due("9 to", x.of(0, 1), 2);
        due("9 weight", x.of(0, 2), 33);
        due("9 clear", x.of(0, 3), 1);
        due("9 where", x.of(0, 4), 0);
        due("9 of(0, 5)", x.of(0, 5), BAD);
        due("9 of(0, -1)", x.of(0, -1), BAD);
        due("9 of(1, 0)", x.of(1, 0), BAD);
        due("9 of(-1, 0)", x.of(-1, 0), BAD);
        standing(x, 4, 0, 0);
    }

    private static void clearEdges() {
        clearIs("b;b 4 44;e0 1 0:44 4;", 1);
        clearIs("b;b 4 84;e0 1 0:4 44;", 1);
        // across: a parameter and its own argument can not be, but for another one's
        clearIs("b;b 4 82;e0 1 0:44 2;", 0);
        // what is across one that has itself alone is free to be
        clearIs("b;b 4 82;e0 1 0:4 2;", 1);
        // a parameter that gets a constant counts
        clearIs("b;b 4 82;e0 1 0:#1 2;", 0);
        clearIs("b;b 4 82;e0 1 0:#1 42;", 1);
        // two arguments across one another
        clearIs("b;b 4 82;e0 1 0:164 162;", 0);
        clearIs("b;b 4 82;e0 1 0:164 182;", 0);
        clearIs("b;b 4 82;e0 1 0:164 202;", 1);
        clearIs("b;b 4 82 101;e0 1 0:4 202 211;", 0);
        clearIs("b;b 4 82 101;e0 1 0:4 202 221;", 1);
        clearIs("b;b 2 41;e0 1 0:42 1;", 0);
        // the least region there is, as an argument or as a parameter
        clearIs("b;b 1 44;e0 1 0:11 4;", 0);
        clearIs("b;b 41 84;e0 1 0:1 4;", 0);
        // the same argument twice is like, not across
        clearIs("b;b 4 84;e0 1 0:164 164;", 1);
    }

    private static void clearIs(String text, int want) {
        due("9 clear of " + text, Checks.of(text).of(0, 3), want);
    }

    private static void whereStepsGo() {
        EdgeMoves x = Checks.of("b;b;b;b 4 82;e0 1 0;e0 2 0;e1 2 0;e2 2 0;e2 3 0:44 2;");
        due("9 where: the only one to", x.of(0, 4), 1);
        due("9 where: split", x.of(1, 4), 2);
        due("9 where: the only one from", x.of(2, 4), 0);
        due("9 where: a loop counts from and to", x.of(3, 4), 2);
        due("9 where: not clear, too", x.of(4, 4), 1);
        due("9 where: not clear", x.of(4, 3), 0);
        x = Checks.of("b;b;e0 1 0;");
        due("9 where: only one from and only one to", x.of(0, 4), 0);
    }

    // 10
    private static void aboutBlocks() {
        EdgeMoves x = Checks.of("b;b 4 44 84;e0 1 0;e1 1 0;e0 1 0;");
        due("10 parameters", x.about(1, 0), 3);
        due("10 from", x.about(1, 1), 1);
        due("10 to", x.about(1, 2), 3);
        due("10 parameters", x.about(0, 0), 0);
        due("10 from", x.about(0, 1), 2);
        due("10 to", x.about(0, 2), 0);
        due("10 about(0, 3)", x.about(0, 3), BAD);
        due("10 about(0, -1)", x.about(0, -1), BAD);
        due("10 about(2, 0)", x.about(2, 0), BAD);
        due("10 about(-1, 0)", x.about(-1, 0), BAD);
        standing(x, 4, 0, 0);
    }

    // 11
    private static void regionsOfBlocks() {
        EdgeMoves x = Checks.of(SIX);
        due("11 region(1, 0)", x.region(1, 0), 4);
        due("11 region(1, 5)", x.region(1, 5), 204);
        due("11 region(1, 6)", x.region(1, 6), NONE);
        due("11 region(1, most)", x.region(1, MOST), NONE);
        due("11 region(0, 0)", x.region(0, 0), NONE);
        due("11 region(1, -1)", x.region(1, -1), BAD);
        due("11 region(2, 0)", x.region(2, 0), BAD);
        due("11 region(-1, 0)", x.region(-1, 0), BAD);
        standing(x, 3, 0, 0);
    }

    // 12
    private static void givenArguments() {
        EdgeMoves x = Checks.of(SIX + "e0 1 0:4 4 #7 4 4 244;");
        due("12 given(0, 0)", x.given(0, 0), 4);
        due("12 given(0, 2)", x.given(0, 2), -8);
        due("12 given(0, 5)", x.given(0, 5), 244);
        due("12 given(0, 6)", x.given(0, 6), NONE);
        due("12 given(0, most)", x.given(0, MOST), NONE);
        due("12 given(0, -1)", x.given(0, -1), BAD);
        due("12 given(1, 0)", x.given(1, 0), BAD);
        due("12 given(-1, 0)", x.given(-1, 0), BAD);
        standing(x, 3, 0, 0);
    }

    // 13
    private static void textsGrow() {
        EdgeMoves x = new EdgeMoves();
        due("13 type(0)", x.type(0), 1);
        due("13 type(127)", x.type(127), 2);
        due("13 type(128)", x.type(128), BAD);
        due("13 type(-1)", x.type(-1), BAD);
        for (int n = 3; n <= 120; n++) {
            due("13 type(98)", x.type(98), n);
        }
        due("13 full, but BAD first", x.type(200), BAD);
        due("13 full", x.type(98), FULL);
        due("13 told(3)", x.told(3), 120);
        standing(x, 3, 0, 1);
    }

    // 14
    private static void textsAreCleared() {
        EdgeMoves x = new EdgeMoves();
        due("14 clear()", x.clear(), 0);
        x.type('b');
        x.type(';');
        due("14 clear()", x.clear(), 2);
        due("14 told(3)", x.told(3), 0);
        due("14 read()", x.read(), -300);
        x.type(' ');
        x.type(';');
        due("14 what was there is gone", x.read(), -301);
    }

    // 15
    private static void textsAreRead() {
        EdgeMoves x = new EdgeMoves();
        due("15 read", Checks.readText(x, " b 4 42 ; b ; e 0 1 7 ; e 1 0 99 : #0 # 5 ;"), -338);
        due("15 read", Checks.readText(x, " b 4 42 ; b ; e 0 1 7 ; e 1 0 99 : #0 102 ; "), 4);
        due("15 blocks", x.told(4), 2);
        due("15 edges", x.told(5), 2);
        due("15 region(0, 1)", x.region(0, 1), 42);
        due("15 of(1, 0)", x.of(1, 0), 1);
        due("15 of(1, 1)", x.of(1, 1), 0);
        due("15 of(1, 2)", x.of(1, 2), 99);
        due("15 given(1, 0)", x.given(1, 0), -1);
        due("15 given(1, 1)", x.given(1, 1), 102);
        due("15 the text stays", x.told(3), 44);
        due("15 once more", x.read(), 4);
        due("15 blocks take the place", x.told(4), 2);
        due("15 without blanks", Checks.readText(x, "b004 42;b;e0 0 000:#99#007;e001 1 9;"), 4);
        due("15 given(0, 0)", x.given(0, 0), -100);
        due("15 given(0, 1)", x.given(0, 1), -8);
        due("15 tight", Checks.readText(x, "b44;b;e1 0 9:4;"), 3);
        due("15 given(0, 0)", x.given(0, 0), 4);
        due("15 arguments are the parameters at first", Checks.readText(x, "b 4 81;e0 0 9;"), 2);
        due("15 given(0, 1)", x.given(0, 1), 81);
        due("15 one item", Checks.readText(x, "b 84;"), 1);
        due("15 one block", x.told(4), 1);
        due("15 no edges", x.told(5), 0);
        due("15 region(0, 0)", x.region(0, 0), 84);
        due("15 ten blocks", Checks.readText(x, "b;b;b;b;b;b;b;b;b;b;"), 10);
        due("15 a block behind", Checks.readText(x, "b;" + "e0 0 0;".repeat(16) + "b;"), 18);
        due("15 sixteen edges", Checks.readText(x, "b;" + "e0 0 0;".repeat(16)), 17);
        standing(x, 0, 0, 0);
    }

    private static void faultIs(String text, int fault) {
        due("15 read of \"" + text + "\"", Checks.readText(new EdgeMoves(), text), -300 - fault);
    }

    private static void faultsOfBlocks() {
        faultIs("", 0);
        faultIs("  ", 2);
        faultIs("b", 1);
        faultIs("b ", 2);
        faultIs("b 4", 3);
        faultIs("b 4 ", 4);
        faultIs("b;b", 3);
        faultIs(";", 0);
        faultIs("b;;", 2);
        faultIs("B;", 0);
        faultIs("\t", 0);
        faultIs("b\t;", 1);
        faultIs("x", 0);
        faultIs("b 4,44;", 3);
        faultIs("b 4 -1;", 4);
        faultIs("b #4;", 2);
        faultIs("b : 4;", 2);
        faultIs("b 4e;", 3);
        faultIs("b 0;", 2);
        faultIs("b 3;", 2);
        faultIs("b 4 2;", 4);
        faultIs("b 4 4;", 4);
        faultIs("b 2 4;", 4);
        faultIs("b 44 62;", 5);
        faultIs("b 14;", 2);
        faultIs("b 12;", 2);
        faultIs("b 284", 5);
        faultIs("b 304;", 2);
        faultIs("b 321;", 2);
        faultIs("b 324;", 2);
        faultIs("b 0004;", 2);
        faultIs("b 99999999999999;", 2);
        faultIs("b 4 44 84 124 164 204 244;", 22);
        faultIs("b 4 44 84 124 164 204 0004;", 22);
        faultIs("b;b;b;b;b;b;b;b;b;b;b;", 20);
        faultIs("b;b;b;b;b;b;b;b;b;b; b", 21);
    }

    private static void faultsOfEdges() {
        faultIs("e0 0 0;", 1);
        faultIs("b;e1 0 0;", 3);
        faultIs("b;e0 1 0;", 5);
        faultIs("b;e0 1 0;b;", 5);
        faultIs("b;e0 0 100;", 7);
        faultIs("b;e0 0 0099;", 7);
        faultIs("b;e0 0 099", 10);
        faultIs("b;e0 0000 9;", 5);
        faultIs("b;e", 3);
        faultIs("b;e0", 4);
        faultIs("b;e0 ", 5);
        faultIs("b;e0 0", 6);
        faultIs("b;e0 0 0", 8);
        faultIs("b;e;", 3);
        faultIs("b;e0;", 4);
        faultIs("b;e0 0;", 6);
        faultIs("b;e0 0:", 6);
        faultIs("b;e0 0 #1;", 7);
        faultIs("b;e0 0 0 4;", 9);
        faultIs("b;e0 0 0e", 8);
        faultIs("b;e00 0;", 7);
        faultIs("b;" + "e0 0 0;".repeat(16) + " e", 115);
    }

    private static void faultsOfArguments() {
        faultIs("b;e0 0 0:;", 8);
        faultIs("b;e0 0 0 :", 9);
        faultIs("b 4;e0 0 0:", 11);
        faultIs("b 4;e0 0 0:;", 11);
        faultIs("b 4;e0 0 0::", 11);
        faultIs("b 4;e0 0 0:4", 12);
        faultIs("b 4;e0 0 0:4 4;", 13);
        faultIs("b 4;e0 0 0:4 #4;", 13);
        faultIs("b 4;e0 0 0:4:", 12);
        faultIs("b 4 44;e0 0 0:4;", 15);
        faultIs("b 4 44;e0 0 0:4 ;", 16);
        faultIs("b 4 44;e0 0 0:4 b", 16);
        faultIs("b 4;e0 0 0:2;", 11);
        faultIs("b 2;e0 0 0:4;", 11);
        faultIs("b 2;e0 0 0:0;", 11);
        faultIs("b 2;e0 0 0:322;", 11);
        faultIs("b 2;e0 0 0:0002;", 11);
        faultIs("b 2;e0 0 0:12;", 11);
        faultIs("b 2;e0 0 0:#;", 11);
        faultIs("b 2;e0 0 0: #", 12);
        faultIs("b 2;e0 0 0:# 5;", 11);
        faultIs("b 2;e0 0 0:#100;", 11);
        faultIs("b 2;e0 0 0:#0005;", 11);
        faultIs("b 2;e0 0 0:##5;", 11);
        faultIs("b 2;e0 0 0:#5#5;", 13);
        faultIs("b 2;e0 0 0:#5", 13);
        faultIs("b 2;e0 0 0 2;", 11);
        faultIs("b 4;b 2;e0 1 0:2;e1 0 0:2;", 24);
    }

    private static void faultsChangeNothing() {
        EdgeMoves x = Checks.of("b 4;e0 0 3:#5;");
        x.machine(2);
        due("15 read", Checks.readText(x, "b 42;b;e0 1 9;e0 0 8:4;"), -321);
        due("15 all stays: blocks", x.told(4), 1);
        due("15 all stays: edges", x.told(5), 1);
        due("15 all stays: region", x.region(0, 0), 4);
        due("15 all stays: argument", x.given(0, 0), -6);
        due("15 all stays: weight", x.of(0, 2), 3);
        due("15 all stays: kind", x.told(6), 2);
        due("15 the text stays", x.told(3), 23);
        standing(x, 0, 0, 0);
    }

    // 16
    private static void stepsAreCounted() {
        EdgeMoves x = Checks.of(SIX + "e0 1 0:44 4 124 244 #1 #2;b;e2 0 0;");
        // 4 and 44 make a ring, 84 <- 124 <- 244, two settings
        int[] want = {7, 5, 0, 2, 1};
        for (int what = 0; what < 5; what++) {
            due("16 steps(0, " + what + ")", x.steps(0, what), want[what]);
            due("16 steps(1, " + what + ")", x.steps(1, what), 0);
        }
        x.machine(1);
        int[] changed = {5, 2, 1, 2, 0};
        for (int what = 0; what < 5; what++) {
            due("16 steps(0, " + what + ") by changes", x.steps(0, what), changed[what]);
        }
        due("16 steps(0, 5)", x.steps(0, 5), BAD);
        due("16 steps(0, -1)", x.steps(0, -1), BAD);
        due("16 steps(2, 0)", x.steps(2, 0), BAD);
        due("16 steps(-1, 0)", x.steps(-1, 0), BAD);
        x.parameter(2, 2);
        x.edge(0, 2, 1);
        due("16 all have themselves", x.steps(2, 0), 0);
        x = Checks.of("b;b 4 82;e0 1 0:44 2;");
        due("16 not clear", x.steps(0, 0), NO);
        due("16 not clear, but BAD first", x.steps(0, 5), BAD);
        standing(x, 1, 1, 0);
    }

    // 17
    private static void movesInOrder() {
        // of those that are free the one of the least byte, however they came
        EdgeMoves x = Checks.of("b;b 84 44 4;e0 1 0:164 204 244;");
        stepIs(x, 0, 0, 0, 4, 244);
        stepIs(x, 0, 1, 0, 44, 204);
        stepIs(x, 0, 2, 0, 84, 164);
        due("17 step(0, 3, 0)", x.step(0, 3, 0), NONE);
        // a chain: the last one is free first
        x = Checks.of("b;b 4 44 84;e0 1 0:44 84 124;");
        stepIs(x, 0, 0, 0, 4, 44);
        stepIs(x, 0, 1, 0, 44, 84);
        stepIs(x, 0, 2, 0, 84, 124);
        x = Checks.of("b;b 4 44 84;e0 1 0:124 4 44;");
        stepIs(x, 0, 0, 0, 84, 44);
        stepIs(x, 0, 1, 0, 44, 4);
        stepIs(x, 0, 2, 0, 4, 124);
    }

    private static void ringsByTheSpare() {
        // the ring of the least byte first; moves come ahead of rings
        EdgeMoves x = Checks.of("b;b 84 44 4 142 162 121;e0 1 0:44 84 204 162 142 261;");
        stepIs(x, 0, 0, 0, 4, 204);
        stepIs(x, 0, 1, 0, 121, 261);
        stepIs(x, 0, 2, 0, 324, 44);
        stepIs(x, 0, 3, 0, 44, 84);
        stepIs(x, 0, 4, 0, 84, 324);
        stepIs(x, 0, 5, 0, 322, 142);
        stepIs(x, 0, 6, 0, 142, 162);
        stepIs(x, 0, 7, 0, 162, 322);
        due("17 no more", x.step(0, 8, 0), NONE);
        x = Checks.of("b;b 1 11;e0 1 0:11 1;");
        stepIs(x, 0, 0, 0, 321, 1);
        // three rings of two are the longest that there is
        x = Checks.of(SIX + "e0 1 0:44 4 124 84 204 164;");
        due("17 nine steps", x.steps(0, 0), 9);
        stepIs(x, 0, 8, 0, 204, 324);
    }

    private static void ringsByChanges() {
        EdgeMoves x = Checks.of("b;b 4 44 84 124;e0 1 0:84 4 44 4;");
        x.machine(1);
        // 124 takes what lies in 4, so that 4 is free: no ring is left
        stepIs(x, 0, 0, 0, 124, 4);
        stepIs(x, 0, 1, 0, 4, 84);
        stepIs(x, 0, 2, 0, 84, 44);
        stepIs(x, 0, 3, 0, 44, 124);
        x = Checks.of("b;b 84 44 4;e0 1 0:44 4 84;");
        x.machine(1);
        stepIs(x, 0, 0, 1, 4, 84);
        stepIs(x, 0, 1, 1, 84, 44);
        due("17 two changes", x.steps(0, 0), 2);
        // three times as dear is never less
        x.machine(2);
        due("17 thrice", x.steps(0, 4), 1);
        x.machine(3);
        due("17 narrow can not change", x.steps(0, 2), 0);
        // paired of 4 bytes: 2 changes of 3 are less than 4 moves of 2
        x.machine(4);
        due("17 paired", x.steps(0, 2), 2);
        // of 2 bytes: 2 changes of 2 are as dear as 4 moves of 1
        pairedRing("b;b 2 22 42;e0 1 0:22 42 2;", 0);
        pairedRing("b;b 1 11 21;e0 1 0:11 21 1;", 0);
        pairedRing("b;b 2 22;e0 1 0:22 2;", 1);
        pairedRing("b;b 1 11;e0 1 0:11 1;", 1);
        pairedRing("b;b 4 44 84 124;e0 1 0:44 84 124 4;", 3);
        pairedRing("b;b 4 44 84 124 164;e0 1 0:44 84 124 164 4;", 0);
        pairedRing(SIX + "e0 1 0:44 84 124 164 204 4;", 0);
    }

    private static void pairedRing(String text, int changes) {
        EdgeMoves x = Checks.of(text);
        x.machine(4);
        due("17 changes of paired machines: " + text, x.steps(0, 2), changes);
        x.machine(2);
        due("17 changes of thrice: " + text, x.steps(0, 2), 0);
    }

    private static void valuesMoveOn() {
        // what two want is taken, the second time, from where it lies by then
        EdgeMoves x = Checks.of("b;b 4 44;e0 1 0:84 84;");
        stepIs(x, 0, 0, 0, 4, 84);
        stepIs(x, 0, 1, 0, 44, 4);
        // of one that has itself, too
        x = Checks.of("b;b 4 44 84;e0 1 0:84 84 84;");
        stepIs(x, 0, 0, 0, 4, 84);
        stepIs(x, 0, 1, 0, 44, 4);
        due("17 no more", x.step(0, 2, 0), NONE);
        // a free one before the ring, which is none any more
        x = Checks.of("b;b 4 44 84;e0 1 0:44 4 44;");
        stepIs(x, 0, 0, 0, 84, 44);
        stepIs(x, 0, 1, 0, 44, 4);
        stepIs(x, 0, 2, 0, 4, 84);
    }

    private static void settingsLast() {
        EdgeMoves x = Checks.of("b;b 124 84 44 4;e0 1 0:#99 4 #0 44;");
        stepIs(x, 0, 0, 0, 84, 4);
        stepIs(x, 0, 1, 0, 4, 44);
        stepIs(x, 0, 2, 2, 44, -1);
        stepIs(x, 0, 3, 2, 124, -100);
        due("17 no more", x.step(0, 4, 0), NONE);
    }

    private static void stepRefusals() {
        EdgeMoves x = Checks.of("b;b 4;e0 1 0:44;");
        due("17 step(0, -1, 0)", x.step(0, -1, 0), BAD);
        due("17 step(0, 0, 3)", x.step(0, 0, 3), BAD);
        due("17 step(0, 0, -1)", x.step(0, 0, -1), BAD);
        due("17 step(1, 0, 0)", x.step(1, 0, 0), BAD);
        due("17 step(-1, 0, 0)", x.step(-1, 0, 0), BAD);
        due("17 step(0, 1, 0)", x.step(0, 1, 0), NONE);
        due("17 step(0, most, 0)", x.step(0, MOST, 0), NONE);
        standing(x, 5, 0, 0);
        x = Checks.of("b;b 4 82;e0 1 0:44 2;");
        due("17 not clear", x.step(0, 0, 0), NO);
        due("17 not clear, none such", x.step(0, 99, 0), NO);
        due("17 not clear, but BAD first", x.step(0, -1, 0), BAD);
        standing(x, 1, 2, 0);
    }

    // 18
    private static void costs() {
        String text = "b;b 4 44 82 102 121 131;e0 1 0:44 4 102 82 131 #1;";
        // rings of 4 and of 2 bytes, a move and a setting of 1
        int[] want = {8, 4, 8, 3 * 4 + 3 * 2 + 2, 3 + 2 + 2};
        for (int kind = 0; kind < 5; kind++) {
            EdgeMoves x = Checks.of(text);
            x.machine(kind);
            due("18 cost(0) by " + kind, x.cost(0), want[kind]);
        }
        wide("b;b 4;e0 1 0:44;", 1, 1, 1, 4, 2);
        wide("b;b 2;e0 1 0:42;", 1, 1, 1, 2, 1);
        wide("b;b 1;e0 1 0:41;", 1, 1, 1, 1, 1);
        wide("b;b 4;e0 1 0:#5;", 1, 1, 1, 4, 2);
        wide("b;b 4;e0 1 0;", 0, 0, 0, 0, 0);
        wide("b;b 4 44 84;e0 1 0:44 84 4;", 4, 2, 4, 16, 6);
        EdgeMoves x = Checks.of("b;b 4 82;e0 1 0:44 2;");
        due("18 not clear", x.cost(0), NO);
        due("18 cost(1)", x.cost(1), BAD);
        due("18 cost(-1)", x.cost(-1), BAD);
        standing(x, 2, 1, 0);
    }

    private static void wide(String text, int... want) {
        EdgeMoves x = Checks.of(text);
        for (int kind = 0; kind < 5; kind++) {
            x.machine(kind);
            due("18 cost by " + kind + " of " + text, x.cost(0), want[kind]);
        }
    }

    // 19
    private static void ringsAreCounted() {
        ringsAre("b;b 4;e0 1 0;", 0, 0, 0);
        ringsAre("b;b 4 44;e0 1 0:44 4;", 1, 2, 0);
        ringsAre("b;b 4 44 84;e0 1 0:44 4 4;", 0, 0, 3);
        ringsAre("b;b 4 44 84;e0 1 0:44 4 #4;", 1, 2, 0);
        ringsAre(SIX + "e0 1 0:44 84 4 164 124 244;", 2, 3, 1);
        ringsAre(SIX + "e0 1 0:44 4 124 84 204 164;", 3, 2, 0);
        ringsAre(SIX + "e0 1 0:44 84 124 164 204 4;", 1, 6, 0);
        ringsAre(SIX + "e0 1 0:44 84 124 164 4 4;", 0, 0, 6);
        ringsAre(SIX + "e0 1 0:44 4 124 84 84 #1;", 1, 2, 3);
        ringsAre("b;b 4 44 84;e0 1 0:44 84 84;", 0, 0, 2);
        EdgeMoves x = Checks.of("b;b 4 82;e0 1 0:44 2;");
        due("19 not clear", x.rings(0, 0), NO);
        due("19 rings(0, 3)", x.rings(0, 3), BAD);
        due("19 rings(0, -1)", x.rings(0, -1), BAD);
        due("19 rings(1, 0)", x.rings(1, 0), BAD);
        standing(x, 3, 1, 0);
    }

    private static void ringsAre(String text, int... want) {
        EdgeMoves x = Checks.of(text);
        for (int what = 0; what < 3; what++) {
            due("19 rings(0, " + what + ") of " + text, x.rings(0, what), want[what]);
        }
    }

    // 20
    private static void cheapestKinds() {
        cheapestIs("b;b 4 44;e0 1 0:44 4;", 1, 1);
        cheapestIs("b;b 4 44;e0 1 0:44 84;", 0, 2);
        cheapestIs("b;b 4 44;e0 1 0;", 0, 0);
        cheapestIs("b;b 1 11;e0 1 0:21 #3;", 0, 2);
        EdgeMoves x = Checks.of("b;b 4 44;e0 1 0:44 4;");
        x.machine(3);
        due("20 THE MACHINE does not count", x.cheapest(0, 0), 1);
        due("20 THE MACHINE stays", x.cost(0), 12);
        due("20 cheapest(0, 2)", x.cheapest(0, 2), BAD);
        due("20 cheapest(0, -1)", x.cheapest(0, -1), BAD);
        due("20 cheapest(1, 0)", x.cheapest(1, 0), BAD);
        x = Checks.of("b;b 4 82;e0 1 0:44 2;");
        due("20 not clear", x.cheapest(0, 1), NO);
        standing(x, 0, 1, 0);
    }

    private static void cheapestIs(String text, int kind, int much) {
        EdgeMoves x = Checks.of(text);
        due("20 kind of " + text, x.cheapest(0, 0), kind);
        due("20 how much of " + text, x.cheapest(0, 1), much);
    }

    // 21
    private static void freeRegions() {
        freeIs("b;b 2;e0 1 0;", 44, 22, 21);
        freeIs("b;b 2;e0 1 0:22;", 44, 42, 41);
        freeIs("b;b 2;e0 1 0:#2;", 44, 22, 21);
        freeIs("b;b;e0 1 0;", 4, 2, 1);
        freeIs("b 4;b;e0 1 0;", 4, 2, 1);
        freeIs("b;b 1 22 84;e0 1 0;", 44, 42, 11);
        freeIs(SIX + "e0 1 0:244 284 4 4 4 4;", NONE, NONE, NONE);
        freeIs(SIX + "e0 1 0:244 4 4 4 4 4;", 284, 282, 281);
        freeIs("b;b 4 44 84 124 164 201;e0 1 0:244 284 4 4 4 211;", NONE, 222, 221);
        freeIs("b;b 4 44 84 124 164 201;e0 1 0:244 284 4 4 4 231;", NONE, NONE, 211);
        freeIs("b;b 4;e0 1 0:#0;", 44, 42, 41);
        // not clear is no matter
        freeIs("b;b 4 82;e0 1 0:124 2;", 44, 42, 41);
        EdgeMoves x = Checks.of("b;e0 0 0;");
        due("21 free(0, 0)", x.free(0, 0), BAD);
        due("21 free(0, 3)", x.free(0, 3), BAD);
        due("21 free(0, 8)", x.free(0, 8), BAD);
        due("21 free(0, -1)", x.free(0, -1), BAD);
        due("21 free(1, 4)", x.free(1, 4), BAD);
        standing(x, 5, 0, 0);
    }

    private static void freeIs(String text, int four, int two, int one) {
        EdgeMoves x = Checks.of(text);
        due("21 free(0, 4) of " + text, x.free(0, 4), four);
        due("21 free(0, 2) of " + text, x.free(0, 2), two);
        due("21 free(0, 1) of " + text, x.free(0, 1), one);
    }

    // 22
    private static void tails() {
        tailIs("b;b 4;", 0);
        tailIs("b;b 4 44;e0 1 0:84 #1;", 2);
        tailIs("b;b 4 44;e0 1 0:84 #1;e0 1 0:124 #1;", 1);
        tailIs("b;b 4 44;e0 1 0:84 #1;e0 1 0:84 #2;", 0);
        tailIs("b;b 4 44;e0 1 0:84 #1;e0 1 0:84 #1;", 2);
        tailIs("b;b 4 44;e0 1 0:84 #1;e0 1 0:4 #1;", 1);
        tailIs("b;b 4 44;e0 1 0:4 44;e0 1 0:84 #1;", 0);
        tailIs("b;b 4 44;e0 1 0:84 #1;e0 0 0;e1 1 9:84 #1;e0 1 0:#4 #1;", 1);
        EdgeMoves x = Checks.of("b;b 4 82;e0 1 0;e0 1 0:44 2;e0 0 0;");
        due("22 one is not clear", x.tail(1), NO);
        due("22 none of these", x.tail(0), 0);
        due("22 tail(2)", x.tail(2), BAD);
        due("22 tail(-1)", x.tail(-1), BAD);
        standing(x, 2, 1, 0);
    }

    private static void tailIs(String text, int want) {
        due("22 tail of " + text, Checks.of(text).tail(1), want);
    }

    // 23
    private static void runs() {
        EdgeMoves x = Checks.of("b;b 4 62 81 124;e0 0 0;e0 1 0:124 42 #99 4;");
        for (int way = 0; way < 2; way++) {
            due("23 no parameters", x.run(0, 7, way), 5874085379842307693L);
            due("23 seed 0", x.run(0, 0, way), 3473498635648015767L);
            due("23 seed 999999", x.run(0, 999999, way), 3409044913120233409L);
            due("23 all sorts", x.run(1, 12, way), 3755982000887482368L);
        }
        x = Checks.of("b;b 4 42;e0 1 0:#99 #5;");
        due("23 constants", x.run(0, 12, 0), -4878058062984306767L);
        due("23 constants", x.run(0, 12, 1), -4878058062984306767L);
        due("23 run(0, -1, 0)", x.run(0, -1, 0), BAD);
        due("23 run(0, 1000000, 0)", x.run(0, 1000000, 0), BAD);
        due("23 run(0, 0, 2)", x.run(0, 0, 2), BAD);
        due("23 run(0, 0, -1)", x.run(0, 0, -1), BAD);
        due("23 run(1, 0, 0)", x.run(1, 0, 0), BAD);
        standing(x, 5, 0, 0);
        x = Checks.of("b;b 4 82;e0 1 0:44 2;");
        due("23 not clear", x.run(0, 0, 0), NO);
        due("23 not clear", x.run(0, 0, 1), NO);
        bothWays();
    }

    private static void bothWays() {
        String[] texts = {"44 4 124 84 204 164", "44 84 124 164 204 4", "44 84 4 4 #7 124", "164 204 4 4 44 84"};
        for (String text : texts) {
            EdgeMoves x = Checks.of(SIX + "e0 1 0:" + text + ";");
            long want = x.run(0, 4711, 0);
            for (int kind = 0; kind < 5; kind++) {
                x.machine(kind);
                due("23 step by step by " + kind + ": " + text, x.run(0, 4711, 1), want);
            }
        }
    }

    // 24
    private static void wholes() {
        EdgeMoves x = Checks.of("b;b 4 82;e0 1 5:44 #1;e0 1 7:44 2;e0 1 2;e1 0 9;e0 1 10:#1 #2;");
        due("24 cost", x.whole(0), 5 * 2 + 10 * 2);
        due("24 split that have steps", x.whole(1), 2);
        due("24 not clear", x.whole(2), 1);
        due("24 steps", x.whole(3), 4);
        x.machine(3);
        due("24 cost by narrow", x.whole(0), 5 * 6 + 10 * 6);
        due("24 whole(4)", x.whole(4), BAD);
        due("24 whole(-1)", x.whole(-1), BAD);
        standing(x, 2, 0, 0);
        x = new EdgeMoves();
        for (int what = 0; what < 4; what++) {
            due("24 nothing", x.whole(what), 0);
        }
    }

    // 25
    private static void dearestEdges() {
        EdgeMoves x = new EdgeMoves();
        due("25 none", x.dearest(), NONE);
        x = Checks.of("b;b 4 82;e0 1 99:44 2;");
        due("25 none is clear", x.dearest(), NONE);
        x = Checks.of("b 4;e0 0 0:44;");
        due("25 the first one, of no weight", x.dearest(), 0);
        x = Checks.of("b;b 4 82;e0 1 99:44 2;e0 1 0;");
        due("25 it may cost nothing", x.dearest(), 1);
        x = Checks.of("b;b 4 42;e0 1 9;e0 1 4:44 #1;e0 1 8:84 42;e0 1 7:#1 42;e0 1 4:#1 #1;");
        due("25 edge 1 is not clear", x.dearest(), 2);
        x = Checks.of("b;b 4 82;e0 1 9;e0 1 4:44 #1;e0 1 9:44 82;e0 1 3:#1 #2;e0 1 9:#1 82;");
        due("25 by weight", x.dearest(), 2);
        x.machine(3);
        due("25 by narrow", x.dearest(), 2);
        x.weight(3, 6);
        due("25 of like ones the least number", x.dearest(), 2);
        x.weight(3, 7);
        due("25 more by one", x.dearest(), 3);
    }

    // 26
    private static void reaches() {
        EdgeMoves x = Checks.of("b;b;b;b;b;e0 1 0;e1 2 0;e2 3 0;e0 2 9;e3 0 0;e3 3 0;");
        due("26 itself", x.reach(4, 4), 0);
        due("26 itself", x.reach(3, 3), 0);
        due("26 one", x.reach(0, 1), 1);
        due("26 the short way", x.reach(0, 3), 2);
        due("26 around", x.reach(1, 0), 3);
        due("26 back", x.reach(2, 1), 3);
        due("26 none", x.reach(0, 4), NONE);
        due("26 none", x.reach(4, 0), NONE);
        due("26 reach(5, 0)", x.reach(5, 0), BAD);
        due("26 reach(0, 5)", x.reach(0, 5), BAD);
        due("26 reach(-1, 0)", x.reach(-1, 0), BAD);
        due("26 reach(0, -1)", x.reach(0, -1), BAD);
        standing(x, 4, 0, 0);
        x = Checks.of("b;b;b;b;b;b;b;b;b;b;e8 9 0;e7 8 0;e6 7 0;e5 6 0;e4 5 0;e3 4 0;e2 3 0;e1 2 0;e0 1 0;");
        due("26 the longest way", x.reach(0, 9), 9);
    }

    // 27
    private static void draws() {
        EdgeMoves x = Checks.of("b 4;b;e0 0 9;e0 1 2;");
        due("27 draw(1, 3, 4)", x.draw(1, 3, 4), 4);
        due("27 blocks", x.told(4), 8);
        due("27 edges", x.told(5), 4);
        int[][] blocks = {{1, 42, 84}, {2, 42, 81}, {4, 44, 84}, {4, 42, 81}, {4, 44, 81}, {1, 44, 84}, {4, 44, 81},
            {2, 41, 84}};
        for (int b = 0; b < 8; b++) {
            due("27 parameters", x.about(b, 0), 3);
            for (int i = 0; i < 3; i++) {
                due("27 region(" + b + ", " + i + ")", x.region(b, i), blocks[b][i]);
            }
        }
        int[][] edges = {{7, 6, 31, 44, 84, 1}, {4, 1, 94, 242, 122, 121}, {2, 5, 61, 1, 164, 164},
            {5, 7, 67, 242, 201, 124}};
        for (int e = 0; e < 4; e++) {
            for (int i = 0; i < 3; i++) {
                due("27 of(" + e + ", " + i + ")", x.of(e, i), edges[e][i]);
                due("27 given(" + e + ", " + i + ")", x.given(e, i), edges[e][3 + i]);
            }
        }
        due("27 draw(999999, 6, 16)", x.draw(999999, 6, 16), 16);
        int[] last = {162, 121, 2, 162, 162, 41};
        int[] first = {1, 201, 204, -6, -92, -80};
        for (int i = 0; i < 6; i++) {
            due("27 given(15, " + i + ")", x.given(15, i), last[i]);
            due("27 given(0, " + i + ")", x.given(0, i), first[i]);
        }
        drawRefusals(x);
        due("27 draw(0, 0, 2)", x.draw(0, 0, 2), 2);
        due("27 of(0, 2)", x.of(0, 2), 88);
        due("27 draw(0, 0, 0)", x.draw(0, 0, 0), 0);
        due("27 blocks", x.told(4), 8);
        due("27 edges", x.told(5), 0);
    }

    private static void drawRefusals(EdgeMoves x) {
        due("27 draw(1000000, 6, 16)", x.draw(1000000, 6, 16), BAD);
        due("27 draw(-1, 6, 16)", x.draw(-1, 6, 16), BAD);
        due("27 draw(0, 7, 16)", x.draw(0, 7, 16), BAD);
        due("27 draw(0, -1, 16)", x.draw(0, -1, 16), BAD);
        due("27 draw(0, 6, 17)", x.draw(0, 6, 17), BAD);
        due("27 draw(0, 6, -1)", x.draw(0, 6, -1), BAD);
        due("27 all stays", x.told(5), 16);
        standing(x, 6, 0, 0);
    }

    // 28
    private static void toldCounts() {
        EdgeMoves x = Checks.of("b 4;b;e0 0 9;");
        x.machine(4);
        x.parameter(0, 4);
        x.parameter(0, 2);
        x.parameter(0, 3);
        for (int i = 0; i < 9; i++) {
            x.block();
        }
        due("28 told(7)", x.told(7), BAD);
        due("28 told(-1)", x.told(-1), BAD);
        standing(x, 3, 2, 1);
        due("28 told(3)", x.told(3), 13);
        due("28 told(4)", x.told(4), 10);
        due("28 told(5)", x.told(5), 1);
        due("28 told(6)", x.told(6), 4);
        Checks.readText(x, "x");
        x.region(0, 99);
        standing(x, 3, 2, 1);
    }

    // 29
    private static void digests() {
        EdgeMoves x = new EdgeMoves();
        x.block();
        x.block();
        x.parameter(0, 4);
        x.parameter(0, 42);
        x.edge(0, 0, 9);
        x.argument(0, 0, 44);
        x.argument(0, 1, -6);
        x.edge(1, 1, 99);
        x.machine(3);
        x.type(0);
        x.type(1);
        x.machine(9);
        x.parameter(0, 42);
        due("29 digest()", x.digest(), 6574930382930443628L);
        due("29 digest() changes nothing", x.digest(), 6574930382930443628L);
    }
}
