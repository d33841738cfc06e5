/** The sentence on refusals, and each promise's own words on boundaries, by the promises' numbers. */
public final class CallBoundsTest {
    private static final int NONE = -201, BAD = -202, NO = -203, FULL = -204;
    private static final int LEAST = Integer.MIN_VALUE, MOST = Integer.MAX_VALUE;
    private static final Checks CHECKS = new Checks("CallBoundsTest");

    private static final int CHANGER = 1, NARROW = 3, PAIRED = 4;
    private static final int MOVE = 0, CHANGE = 1, SETTING = 2;
    private static final String SIX = "b;b 4 44 84 124 164 204;";
    private static final String NOT_CLEAR = "b;b 4 82;e0 1 9:44 2;";

    /** The bytes drawn by the first SEED and by the last one, worked out apart from the class. */
    private static final int[] BY_0 = {0, 220, 4, 101, 170, 31, 173, 29, 90, 218, 229, 172, 27, 30, 95, 19, 112, 121, 108, 253,
        16, 255, 25, 175, 96, 29, 4, 172, 180, 29, 2, 43};
    private static final int[] BY_999999 = {104, 214, 55, 191, 142, 157, 127, 45, 136, 60, 153, 145, 103, 41, 210, 35, 197, 114,
        221, 52, 179, 52, 162, 11, 100, 215, 204, 128, 154, 10, 17, 90};

    public static void main(String[] args) {
        badIsFirst();
        noIsAheadOfFull();
        refusedChangesHowOftenAlone();
        noneAndFaultsAreNotRefused();
        aNewObject();
        anewOfNoneAndOfAll();
        whatWentIsNotSeen();
        blockIsFull();
        parameterIsFull();
        parameterIsAnArgumentToAllEdgesThatGoToIt();
        edgeIsFull();
        itIsToldWhichItWas();
        ofEnds();
        aboutEnds();
        regionEnds();
        givenEnds();
        clearOfNone();
        stepsEnd();
        stepIsNotSoMany();
        stepOfEachSort();
        costEnds();
        ringsEnd();
        ringsWantedByTheNextAlone();
        cheapestOfLikeOnes();
        freeIsTheLeast();
        freeIsTheLastOrNone();
        tailOfNoEdges();
        tailIsTheSame();
        tailIsNotClear();
        runEnds();
        runSeeds();
        runConstants();
        runRings();
        wholeEnds();
        wholeOfNone();
        dearestIsNone();
        dearestOfLikeOnes();
        reachBy0OrMore();
        drawEnds();
        drawTakesThePlaceOfAll();
        drawRemainders();
        drawDigests();
        toldEnds();
        digestOfNoneAndOfAll();
        CHECKS.end();
    }

    private static Watch watch(String sentence) {
        return new Watch(CHECKS, sentence);
    }

    private static long mixed(long first, int... values) {
        long h = first;
        for (int v : values) {
            h = 31 * h + v;
        }
        return h;
    }

    // "Refused, changing nothing but how often, the first of: BAD ...; NO ...; FULL ..."

    private static void badIsFirst() {
        Watch x = watch("BAD ahead of FULL").read(SIX).refused(FULL, "parameter", 1, 244);
        x.refused(BAD, "parameter", 1, 243).refused(BAD, "parameter", 1, 324).refused(BAD, "parameter", 2, 244);
        x = watch("BAD ahead of NO").read(SIX).refused(NO, "parameter", 1, 31);
        x.refused(BAD, "parameter", 1, 32).refused(BAD, "parameter", 1, 14).refused(BAD, "parameter", -1, 4);
        x = watch("BAD ahead of FULL").due(16, "draw", 5, 0, 16).refused(FULL, "edge", 7, 7, 99);
        x.refused(BAD, "edge", 8, 7, 99).refused(BAD, "edge", 7, 8, 99).refused(BAD, "edge", 7, 7, 100);
        x = watch("BAD ahead of FULL").type(" ".repeat(120)).refused(FULL, "type", 127).refused(BAD, "type", 128);
        x = watch("BAD ahead of NO").read(NOT_CLEAR);
        x.refused(NO, "steps", 0, 4).refused(BAD, "steps", 0, 5).refused(BAD, "steps", 1, 4);
        x.refused(NO, "step", 0, 0, 2).refused(BAD, "step", 0, 0, 3).refused(BAD, "step", 0, -1, 2)
            .refused(BAD, "step", 1, 0, 2);
        x.refused(NO, "cost", 0).refused(BAD, "cost", 1);
        x.refused(NO, "rings", 0, 2).refused(BAD, "rings", 0, 3).refused(BAD, "rings", 1, 2);
        x.refused(NO, "cheapest", 0, 1).refused(BAD, "cheapest", 0, 2).refused(BAD, "cheapest", 1, 1);
        x.refused(NO, "tail", 1).refused(BAD, "tail", 2);
        x.refused(NO, "run", 0, 999999, 1).refused(BAD, "run", 0, 1000000, 1).refused(BAD, "run", 0, 999999, 2);
        x.refused(BAD, "run", 1, 999999, 1).refused(BAD, "run", 0, -1, 0).refused(BAD, "run", 0, 0, -1);
    }

    private static void noIsAheadOfFull() {
        Watch x = watch("NO ahead of FULL").read(SIX);
        x.refused(NO, "parameter", 1, 204).refused(NO, "parameter", 1, 231).refused(NO, "parameter", 1, 22);
        x.refused(FULL, "parameter", 1, 241).refused(FULL, "parameter", 1, 242).refused(FULL, "parameter", 1, 284);
        // not as many as may be: only NO
        watch("NO").read("b 4 44 84 124 164;").refused(NO, "parameter", 0, 164).due(5, "parameter", 0, 204)
            .refused(FULL, "parameter", 0, 244);
    }

    private static void refusedChangesHowOftenAlone() {
        Watch x = watch("changing nothing but how often").read(NOT_CLEAR + "e0 1 3:44 #5;").due(0, "machine", 2);
        x.refused(BAD, "machine", 5).refused(NO, "parameter", 1, 4).refused(BAD, "parameter", 1, 5);
        x.refused(BAD, "argument", 1, 0, 42).refused(BAD, "argument", 1, 2, 4).refused(BAD, "weight", 1, 100);
        x.refused(BAD, "draw", 1, 7, 1).refused(BAD, "type", 200).refused(NO, "cost", 0).refused(BAD, "edge", 0, 2, 0);
        x.same(8, "told", 0).same(2, "told", 1).same(0, "told", 2);
        x.same(2, "told", 4).same(2, "told", 5).same(2, "told", 6).same(44, "given", 1, 0).same(-6, "given", 1, 1);
        for (int b = 2; b < 10; b++) {
            x.due(b, "block");
        }
        x.refused(FULL, "block").refused(FULL, "block").same(2, "told", 2).same(8, "told", 0).same(10, "told", 4);
        // the text is what it was
        x.due(4, "read").same(2, "told", 4);
    }

    private static void noneAndFaultsAreNotRefused() {
        Watch x = watch("NONE and FAULTS are not refused").read(SIX + "e0 1 0:244 284 4 4 4 4;");
        x.same(NONE, "region", 0, 0).same(NONE, "given", 0, 6).same(NONE, "step", 0, 99, 0).same(NONE, "free", 0, 1);
        x.same(NONE, "reach", 1, 0).type("e").same(-301, "read").due(1, "anew").same(NONE, "dearest");
        x.same(0, "told", 0).same(0, "told", 1).same(0, "told", 2);
    }

    // 1: "As told; no BLOCKS."

    private static void aNewObject() {
        Watch x = watch("1 no BLOCKS");
        for (int what = 0; what < 7; what++) {
            x.same(0, "told", what);
        }
        x.same(52631630794343L, "digest").same(0, "clear").same(0, "anew").same(-300, "read").same(0, "machine", 0);
        x.refused(BAD, "parameter", 0, 4).refused(BAD, "edge", 0, 0, 0).refused(BAD, "argument", 0, 0, 4)
            .refused(BAD, "weight", 0, 0);
        x.refused(BAD, "of", 0, 0).refused(BAD, "about", 0, 0).refused(BAD, "region", 0, 0).refused(BAD, "given", 0, 0);
        x.refused(BAD, "steps", 0, 0).refused(BAD, "step", 0, 0, 0).refused(BAD, "cost", 0).refused(BAD, "rings", 0, 0);
        x.refused(BAD, "cheapest", 0, 0).refused(BAD, "free", 0, 4).refused(BAD, "tail", 0).refused(BAD, "run", 0, 0, 0);
        x.refused(BAD, "reach", 0, 0).same(NONE, "dearest").same(17, "told", 0).due(0, "block");
    }

    // 2: "All BLOCKS and EDGES go: how many EDGES there were."

    private static void anewOfNoneAndOfAll() {
        Watch x = watch("2 how many EDGES there were").same(0, "anew").due(0, "block").due(0, "anew").same(0, "told", 4);
        x.read("b;e0 0 1;").due(1, "anew").same(0, "anew");
        x.due(16, "draw", 9, 6, 16).due(8, "block").due(9, "block").due(0, "machine", 4).due(BAD, "told", 7);
        x.due(16, "anew").same(0, "told", 4).same(0, "told", 5).same(9, "told", 3).same(4, "told", 6).same(1, "told", 0);
        x.refused(BAD, "about", 0, 0).refused(BAD, "of", 0, 0).same(0, "anew").due(0, "block").same(0, "about", 0, 0);
        x.due(0, "edge", 0, 0, 0).same(NONE, "given", 0, 0).due(1, "anew").due(2, "read");
    }

    // 2: "All BLOCKS and EDGES go"

    private static void whatWentIsNotSeen() {
        Watch x = watch("2 all go").due(0, "block").due(1, "block").due(0, "parameter", 1, 4).due(1, "parameter", 1, 82);
        x.due(0, "edge", 0, 1, 9).due(82, "argument", 0, 1, 2).due(1, "edge", 1, 0, 9).due(2, "anew");
        x.due(0, "block").due(1, "block").due(0, "parameter", 1, 4).due(0, "edge", 0, 1, 0).due(4, "argument", 0, 0, 44);
        x.same(1, "of", 0, 3).same(0, "whole", 2).same(1, "steps", 0, 0).same(1, "rings", 0, 2).same(1, "tail", 1);
        x.same(81, "free", 0, 1).same(NONE, "reach", 1, 0).same(0, "about", 1, 1).same(NONE, "given", 0, 1);
        x = watch("2 all go").due(16, "draw", 9, 6, 16).due(16, "anew");
        for (int b = 0; b < 8; b++) {
            x.due(b, "block").same(0, "about", b, 1).same(0, "about", b, 2).same(0, "tail", b);
        }
        for (int b = 1; b < 8; b++) {
            x.same(NONE, "reach", 0, b).same(NONE, "reach", b, 0);
        }
        x.same(NONE, "dearest").same(0, "whole", 0).same(0, "whole", 2).same(0, "whole", 3);
    }

    // 3: "A BLOCK comes: its number. FULL."

    private static void blockIsFull() {
        Watch x = watch("3 FULL").due(0, "draw", 9, 6, 0).due(8, "block").due(9, "block").refused(FULL, "block")
            .same(10, "told", 4);
        x.same(0, "about", 9, 0).due(0, "anew").due(0, "block").same(1, "told", 2).same(1, "told", 4);
        x.read("b;b;b;b;b;b;b;b;b;").due(9, "block").refused(FULL, "block");
    }

    // 4: "its number. BAD; NO: like or ACROSS another one; FULL: 6."

    private static void parameterIsFull() {
        Watch x = watch("4 FULL: 6").due(0, "draw", 9, 5, 0);
        for (int b = 0; b < 8; b++) {
            x.due(5, "parameter", b, 311 - 10 * b).refused(FULL, "parameter", b, 204).due(311 - 10 * b, "region", b, 5);
        }
        x.same(8, "told", 2).same(0, "told", 1);
    }

    // 4: "(an ARGUMENT to all EDGES that go to it)"

    private static void parameterIsAnArgumentToAllEdgesThatGoToIt() {
        Watch x = watch("4 all EDGES that go to it").read("b;b;e0 1 0;e1 0 0;e1 1 0;e0 0 0;").due(0, "parameter", 1, 42);
        x.same(42, "given", 0, 0).same(NONE, "given", 1, 0).same(42, "given", 2, 0).same(NONE, "given", 3, 0);
        x.due(0, "parameter", 0, 4).same(4, "given", 1, 0).same(4, "given", 3, 0).same(NONE, "given", 0, 1)
            .same(NONE, "given", 1, 1);
        x = watch("4 to none").due(0, "block").due(0, "parameter", 0, 4).same(0, "told", 5);
    }

    // 5: "An EDGE comes: its number. BAD; FULL."

    private static void edgeIsFull() {
        Watch x = watch("5 FULL").due(15, "draw", 9, 0, 15).due(15, "edge", 7, 0, 99).refused(FULL, "edge", 7, 0, 99);
        x.same(16, "told", 5).same(7, "of", 15, 0).same(0, "of", 15, 1).same(99, "of", 15, 2).refused(BAD, "of", 16, 0);
        x.due(16, "anew").due(0, "block").due(0, "edge", 0, 0, 0).same(1, "told", 2);
    }

    // 6, 7, 8: "which it was", "what it was"

    private static void itIsToldWhichItWas() {
        Watch x = watch("6, 7, 8 what it was").read("b 1 22 44;e0 0 0;");
        x.same(1, "argument", 0, 0, 1).same(22, "argument", 0, 1, 22).same(44, "argument", 0, 2, 44);
        x.due(44, "argument", 0, 2, -100).same(-100, "argument", 0, 2, -100).due(-100, "argument", 0, 2, 284)
            .same(284, "given", 0, 2);
        x.same(0, "weight", 0, 0).due(0, "weight", 0, 99).same(99, "weight", 0, 99).due(99, "weight", 0, 0);
        x.same(0, "machine", 0).due(0, "machine", 4).same(4, "machine", 4).due(4, "machine", 0);
        // not as wide
        x.refused(BAD, "argument", 0, 0, 22).refused(BAD, "argument", 0, 1, 1).refused(BAD, "argument", 0, 1, 44);
        x.refused(BAD, "argument", 0, 2, 22).refused(BAD, "argument", 0, 2, 1).same(284, "given", 0, 2);
    }

    // 9: "from (0), to (1), WEIGHT (2), CLEAR (3; 1, 0), where STEPS go (4). BAD."

    private static void ofEnds() {
        Watch x = watch("9 (0) to (4)").read("b;b 4 82;e0 1 99:44 2;e0 0 0;");
        x.same(0, "of", 0, 0).same(1, "of", 0, 1).same(99, "of", 0, 2).same(0, "of", 0, 3).same(1, "of", 0, 4)
            .same(1, "of", 1, 3);
        x.refused(BAD, "of", 0, 5).refused(BAD, "of", 0, -1).refused(BAD, "of", 0, MOST).refused(BAD, "of", 0, LEAST);
        x.refused(BAD, "of", 2, 0).refused(BAD, "of", -1, 0);
    }

    // 10: "PARAMETERS (0), EDGES from it (1), to it (2). BAD."

    private static void aboutEnds() {
        Watch x = watch("10 (0) to (2)").read(SIX + "e1 0 0;e1 0 0;e0 1 0;");
        x.same(6, "about", 1, 0).same(2, "about", 1, 1).same(1, "about", 1, 2);
        x.same(0, "about", 0, 0).same(1, "about", 0, 1).same(2, "about", 0, 2);
        x.refused(BAD, "about", 0, 3).refused(BAD, "about", 0, -1).refused(BAD, "about", 0, MOST)
            .refused(BAD, "about", 0, LEAST);
        x.refused(BAD, "about", 2, 0).refused(BAD, "about", -1, 0);
        watch("10 none").due(0, "block").same(0, "about", 0, 0).same(0, "about", 0, 1).same(0, "about", 0, 2);
    }

    // 11: "PARAMETER i of a BLOCK; NONE. BAD: i below 0, too."

    private static void regionEnds() {
        Watch x = watch("11 i below 0, too").read(SIX + "b 311;");
        x.same(4, "region", 1, 0).same(204, "region", 1, 5).same(NONE, "region", 1, 6).same(NONE, "region", 1, MOST);
        x.same(NONE, "region", 0, 0).same(311, "region", 2, 0).same(NONE, "region", 2, 1);
        x.refused(BAD, "region", 1, -1).refused(BAD, "region", 1, LEAST).refused(BAD, "region", 0, -1);
        x.refused(BAD, "region", 3, 0).refused(BAD, "region", 3, 6).refused(BAD, "region", -1, 0);
    }

    // 12: "ARGUMENT i of an EDGE; NONE. BAD: i below 0, too."

    private static void givenEnds() {
        Watch x = watch("12 i below 0, too").read(SIX + "e0 1 0:4 4 4 4 4 #9;e1 0 0;");
        x.same(4, "given", 0, 0).same(-10, "given", 0, 5).same(NONE, "given", 0, 6).same(NONE, "given", 0, MOST);
        x.same(NONE, "given", 1, 0).refused(BAD, "given", 0, -1).refused(BAD, "given", 0, LEAST)
            .refused(BAD, "given", 1, -1);
        x.refused(BAD, "given", 2, 0).refused(BAD, "given", 2, 6).refused(BAD, "given", -1, 0);
    }

    // 14: "THE TEXT is empty: how many it had."

    private static void clearOfNone() {
        Watch x = watch("14 how many it had").same(0, "clear").due(1, "type", 'b').due(1, "clear").same(0, "clear")
            .same(-300, "read");
        // what it had is not read again
        x.type("b;").due(2, "clear").due(1, "type", ' ').same(-301, "read").same(0, "told", 4);
        x.type(" ".repeat(120)).due(120, "clear").same(0, "told", 3).due(1, "type", 0);
    }

    // 16: "(what 0), MOVES (1), CHANGES (2), SETTINGS (3), MOVES to THE SPARE (4). BAD; NO: not CLEAR."

    private static void stepsEnd() {
        Watch x = watch("16 (0) to (4)").read(SIX + "e0 1 0:44 4 124 84 244 #0;");
        x.same(8, "steps", 0, 0).same(7, "steps", 0, 1).same(0, "steps", 0, 2).same(1, "steps", 0, 3)
            .same(2, "steps", 0, 4);
        x.refused(BAD, "steps", 0, 5).refused(BAD, "steps", 0, -1).refused(BAD, "steps", 0, MOST)
            .refused(BAD, "steps", 0, LEAST);
        x.refused(BAD, "steps", 1, 0).refused(BAD, "steps", -1, 0).due(0, "machine", CHANGER);
        x.same(4, "steps", 0, 0).same(1, "steps", 0, 1).same(2, "steps", 0, 2).same(1, "steps", 0, 3)
            .same(0, "steps", 0, 4);
        x = watch("16 not CLEAR").read(NOT_CLEAR).refused(NO, "steps", 0, 0).refused(NO, "steps", 0, 4)
            .same(2, "told", 1);
        x.due(2, "argument", 0, 1, 82).same(1, "steps", 0, 0).same(2, "told", 1);
    }

    // 17: "NONE: not so many. BAD: k below 0, too; NO: not CLEAR."

    private static void stepIsNotSoMany() {
        Watch x = watch("17 not so many").read("b;b 4 44;e0 1 0:84 #9;e0 1 0;").steps(0, MOVE, 4, 84, SETTING, 44, -10);
        for (int what = 0; what < 3; what++) {
            x.same(NONE, "step", 0, 2, what).same(NONE, "step", 0, MOST, what).same(NONE, "step", 1, 0, what);
            x.refused(BAD, "step", 0, -1, what).refused(BAD, "step", 0, LEAST, what).refused(BAD, "step", 1, -1, what);
        }
        x.refused(BAD, "step", 0, 0, 3).refused(BAD, "step", 0, 0, -1).refused(BAD, "step", 0, 2, 3)
            .refused(BAD, "step", 1, 0, -1);
        x.refused(BAD, "step", 2, 0, 0).refused(BAD, "step", -1, 0, 0);
        x = watch("17 not CLEAR").read(NOT_CLEAR).refused(NO, "step", 0, 0, 0).refused(NO, "step", 0, MOST, 0)
            .refused(BAD, "step", 0, -1, 0);
        // nine are as many as there may be
        x = watch("17 as many as may be").read(SIX + "e0 1 0:44 4 124 84 204 164;");
        x.same(204, "step", 0, 8, 1).same(324, "step", 0, 8, 2).same(NONE, "step", 0, 9, 0).same(NONE, "step", 0, 9, 1);
    }

    // 17: "sort (0; 0 MOVE, 1 CHANGE, 2 SETTING), the REGION it goes to (1), from (2; of a CHANGE the other one, ...)"

    private static void stepOfEachSort() {
        Watch x = watch("17 each sort").read("b;b 4 44 84 121;e0 1 0:44 4 #99 311;").due(0, "machine", CHANGER);
        x.steps(0, MOVE, 121, 311, CHANGE, 4, 44, SETTING, 84, -100).due(1, "machine", 0);
        x.steps(0, MOVE, 121, 311, MOVE, 324, 4, MOVE, 4, 44, MOVE, 44, 324, SETTING, 84, -100);
    }

    // 18: "What all STEPS cost. BAD; NO: not CLEAR."

    private static void costEnds() {
        Watch x = watch("18 what all cost").read(SIX + "e0 1 0:44 4 124 84 204 164;e0 1 0;");
        int[] all = {9, 3, 9, 36, 9};
        for (int kind = 0; kind < 5; kind++) {
            x.ask("machine", kind);
            x.same(all[kind], "cost", 0).same(0, "cost", 1);
        }
        x.refused(BAD, "cost", 2).refused(BAD, "cost", -1);
        watch("18 not CLEAR").read(NOT_CLEAR).refused(NO, "cost", 0).refused(BAD, "cost", 1);
    }

    // 19: "(what 0), how many are in the longest such (1), how many OPEN ones are in none (2). BAD; NO: not CLEAR."

    private static void ringsEnd() {
        Watch x = watch("19 (0) to (2)").read(SIX + "e0 1 0:44 84 4 164 124 244;");
        x.same(2, "rings", 0, 0).same(3, "rings", 0, 1).same(1, "rings", 0, 2);
        x.refused(BAD, "rings", 0, 3).refused(BAD, "rings", 0, -1).refused(BAD, "rings", 0, MOST)
            .refused(BAD, "rings", 0, LEAST);
        x.refused(BAD, "rings", 1, 0).refused(BAD, "rings", -1, 0);
        watch("19 not CLEAR").read(NOT_CLEAR).refused(NO, "rings", 0, 0).refused(NO, "rings", 0, 2);
    }

    // 19: "rings those that are OPEN at first have, in which nothing of a ring is wanted but by the next"

    private static void ringsWantedByTheNextAlone() {
        ringsAre("44 4 84 124 164 204", 1, 2, 0);
        ringsAre("44 4 4 124 164 204", 0, 0, 3);
        ringsAre("44 4 44 4 164 204", 0, 0, 4);
        ringsAre("44 4 244 124 164 204", 1, 2, 1);
        // wanted by one that is in a chain, and by none of its ring
        ringsAre("44 84 4 84 124 164", 0, 0, 6);
        ringsAre("44 84 4 164 124 124", 1, 3, 3);
        ringsAre("44 4 124 84 204 164", 3, 2, 0);
        ringsAre("44 84 124 164 204 4", 1, 6, 0);
        ringsAre("44 84 124 164 4 4", 0, 0, 6);
        ringsAre("44 84 124 164 4 204", 1, 5, 0);
        // no ring goes by one that is not OPEN
        ringsAre("44 #4 84 124 164 204", 0, 0, 1);
        ringsAre("44 44 84 124 164 204", 0, 0, 1);
        ringsAre("44 84 #0 124 164 204", 0, 0, 2);
        ringsAre("4 44 84 124 164 204", 0, 0, 0);
        ringsAre("#0 #0 #0 #0 #0 #0", 0, 0, 0);
        ringsAre("284 284 284 284 284 284", 0, 0, 6);
    }

    private static void ringsAre(String arguments, int rings, int longest, int inNone) {
        Watch x = watch("19 rings of " + arguments).read(SIX + "e0 1 0:" + arguments + ";");
        for (int kind = 0; kind < 5; kind++) {
            x.ask("machine", kind);
            x.same(rings, "rings", 0, 0).same(longest, "rings", 0, 1).same(inNone, "rings", 0, 2);
        }
    }

    // 20: "the KIND of MACHINES by which an EDGE costs least (of like ones the least): that (0), how much (1)"

    private static void cheapestOfLikeOnes() {
        Watch x = watch("20 of like ones the least").read("b;b 1 11;e0 1 0;e0 1 0:21 #0;e0 1 0:11 1;");
        for (int kind = 4; kind >= 0; kind--) {
            x.ask("machine", kind);
            x.same(0, "cheapest", 0, 0).same(0, "cheapest", 0, 1).same(0, "cheapest", 1, 0).same(2, "cheapest", 1, 1);
            x.same(1, "cheapest", 2, 0).same(1, "cheapest", 2, 1).same(kind, "told", 6);
        }
        x.refused(BAD, "cheapest", 0, 2).refused(BAD, "cheapest", 0, -1).refused(BAD, "cheapest", 0, MOST)
            .refused(BAD, "cheapest", 3, 0);
        watch("20 not CLEAR").read(NOT_CLEAR).refused(NO, "cheapest", 0, 0).refused(NO, "cheapest", 0, 1);
        watch("20 a ring of the whole BLOCK").read(SIX + "e0 1 0:44 84 124 164 204 4;").same(1, "cheapest", 0, 0)
            .same(5, "cheapest", 0, 1);
    }

    // 21: "The least REGION w (1, 2, 4) wide that no PARAMETER ..., no ARGUMENT ... is like or ACROSS"

    private static void freeIsTheLeast() {
        Watch x = watch("21 the least").read("b;b 284;b 1;b 44;e0 0 0;e0 1 0;e0 2 0;e0 3 0;e0 3 0:4;e0 1 0:#0;");
        free(x, 0, 4, 2, 1);
        free(x, 1, 4, 2, 1);
        free(x, 2, 44, 22, 11);
        free(x, 3, 4, 2, 1);
        free(x, 4, 84, 82, 81);
        free(x, 5, 4, 2, 1);
        for (int w : new int[] {0, 3, 5, 8, -1, -4, MOST, LEAST}) {
            x.refused(BAD, "free", 0, w);
        }
        x.refused(BAD, "free", 6, 1).refused(BAD, "free", -1, 1);
        // not of the BLOCK that it comes from, and CLEAR is no matter
        free(watch("21 the BLOCK it goes to").read("b 4;b;e0 1 0;"), 0, 4, 2, 1);
        free(watch("21 not CLEAR").read(NOT_CLEAR), 0, 124, 102, 101);
    }

    private static void free(Watch x, int e, int four, int two, int one) {
        x.same(four, "free", e, 4).same(two, "free", e, 2).same(one, "free", e, 1);
    }

    // 21: "NONE"

    private static void freeIsTheLastOrNone() {
        free(watch("21 the last of four").read(SIX + "e0 1 0:244 44 84 124 164 204;"), 0, 284, 282, 281);
        free(watch("21 the last of two").read("b;b 4 44 84 124 162 181;e0 1 0:164 204 244 124 282 181;"), 0, NONE, 302, 301);
        free(watch("21 the last byte").read("b;b 4 44 84 124 162 181;e0 1 0:164 204 244 124 282 301;"), 0, NONE, NONE, 311);
        free(watch("21 the first byte").read("b;b 11 22 44 84 124 164;e0 1 0:11 22 204 244 284 164;"), 0, NONE, NONE, 1);
        free(watch("21 none").read(SIX + "e0 1 0:244 284 84 124 164 204;"), 0, NONE, NONE, NONE);
        Watch x = watch("21 none, not refused").read(SIX + "e0 1 0:244 284 84 124 164 204;").same(NONE, "free", 0, 4)
            .same(0, "told", 0);
        x.due(284, "argument", 0, 1, -1).same(284, "free", 0, 4);
    }

    // 22: "How many STEPS ... are the same on all EDGES to a BLOCK (0: no EDGES)."

    private static void tailOfNoEdges() {
        watch("22 no EDGES").read("b 4;b 4;e0 1 0:44;").same(0, "tail", 0).same(1, "tail", 1).refused(BAD, "tail", 2)
            .refused(BAD, "tail", -1);
        tailIs("", 0);
    }

    private static void tailIs(String edges, int want) {
        watch("22 tail of " + edges).read("b;b 4 44 84;" + edges).due(0, "machine", CHANGER).same(want, "tail", 1);
    }

    private static void tailIsTheSame() {
        tailIs("e0 1 0;", 0);
        tailIs("e0 1 0:124 #1 #2;", 3);
        tailIs("e0 1 0:124 #1 #2;e1 1 9:124 #1 #2;", 3);
        tailIs("e0 1 0:124 #1 #2;e0 1 0:4 #1 #2;", 2);
        tailIs("e0 1 0:4 #1 #2;e0 1 0:124 #1 #2;", 2);
        tailIs("e0 1 0:124 #1 #2;e0 1 0:124 #3 #2;", 1);
        tailIs("e0 1 0:124 #1 #2;e0 1 0:124 #1 #3;", 0);
        tailIs("e0 1 0:124 #1 #2;e0 1 0;", 0);
        tailIs("e0 1 0;e0 1 0:124 #1 #2;", 0);
        tailIs("e0 1 0:#1 #2 #3;e0 1 0:#0 #2 #3;e0 1 0:#0 #0 #3;", 1);
        tailIs("e0 1 0:#1 #2 #3;e0 1 0:#0 #0 #3;e0 1 0:#0 #2 #3;", 1);
        // unlike by the place it goes to alone, by where it is from alone, by its sort alone
        tailIs("e0 1 0:124 44 84;e0 1 0:4 124 84;", 0);
        tailIs("e0 1 0:124 44 84;e0 1 0:164 44 84;", 0);
        tailIs("e0 1 0:44 4 84;e0 1 0:44 44 84;", 0);
        tailIs("e0 1 0:44 4 84;e0 1 0:44 4 84;", 1);
        // an EDGE to another BLOCK does not count
        tailIs("e0 1 0:#1 #2 #3;e1 0 0;e0 0 0;", 3);
        watch("22 nine the same").read(SIX + "e0 1 0:44 4 124 84 204 164;").same(9, "tail", 1)
            .read(SIX + "e0 1 0:44 4 124 84 204 164;e0 1 0:44 4 124 84 204 164;").same(9, "tail", 1);
    }

    // 22: "NO: one is not CLEAR."

    private static void tailIsNotClear() {
        Watch x = watch("22 one is not CLEAR").read("b;b 4 82;e0 1 0;e0 1 0:44 2;e0 0 0;").refused(NO, "tail", 1)
            .same(0, "tail", 0);
        x.due(2, "argument", 1, 1, 82).same(0, "tail", 1).due(4, "argument", 0, 0, 44).same(1, "tail", 1);
        watch("22 one is not CLEAR, the first").read("b;b 4 82;e0 1 0:44 2;e0 1 0;").refused(NO, "tail", 1);
        watch("22 one is not CLEAR, the last").read("b;b 4 82;e0 1 0;e0 1 0;e0 1 0:44 2;").refused(NO, "tail", 1);
        watch("22 the only one is not CLEAR").read(NOT_CLEAR).refused(NO, "tail", 1).same(0, "tail", 0);
    }

    // 23: "a SEED (0 .. 999999 ...)", "(way 0)", "(way 1; the same)", "BAD; NO: not CLEAR."

    private static void runEnds() {
        Watch x = watch("23 SEED and way").read("b;e0 0 0;");
        for (int way = 0; way < 2; way++) {
            x.same(mixed(1, BY_0), "run", 0, 0, way).same(mixed(1, BY_999999), "run", 0, 999999, way);
            for (int seed : new int[] {-1, 1000000, MOST, LEAST}) {
                x.refused(BAD, "run", 0, seed, way);
            }
        }
        x.refused(BAD, "run", 0, 0, 2).refused(BAD, "run", 0, 0, -1).refused(BAD, "run", 0, 999999, MOST)
            .refused(BAD, "run", 0, 0, LEAST);
        x.refused(BAD, "run", 1, 0, 0).refused(BAD, "run", -1, 0, 0).refused(BAD, "run", 1, 999999, 1);
        x = watch("23 not CLEAR").read(NOT_CLEAR).refused(NO, "run", 0, 0, 0).refused(NO, "run", 0, 999999, 1);
    }

    private static void runIs(String text, int[] by, int... changed) {
        int[] bytes = by.clone();
        for (int i = 0; i < changed.length; i += 2) {
            bytes[changed[i]] = changed[i + 1];
        }
        Watch x = watch("23 run of " + text).read(text);
        for (int kind = 0; kind < 5; kind++) {
            x.ask("machine", kind);
            x.same(mixed(1, bytes), "run", 0, by == BY_0 ? 0 : 999999, 0)
                .same(mixed(1, bytes), "run", 0, by == BY_0 ? 0 : 999999, 1);
        }
    }

    private static void runSeeds() {
        // the first bytes and the last ones, each way
        runIs("b;b 4;e0 1 0:284;", BY_0, 0, 180, 1, 29, 2, 2, 3, 43);
        runIs("b;b 284;e0 1 0:4;", BY_0, 28, 0, 29, 220, 30, 4, 31, 101);
        runIs("b;b 2;e0 1 0:302;", BY_999999, 0, 17, 1, 90);
        runIs("b;b 302;e0 1 0:2;", BY_999999, 30, 104, 31, 214);
        runIs("b;b 1;e0 1 0:311;", BY_0, 0, 43);
        runIs("b;b 311;e0 1 0:1;", BY_999999, 31, 104);
    }

    // 23: "(A CONSTANT is put as a number, its lowest byte first.)"

    private static void runConstants() {
        runIs("b;b 4;e0 1 0:#99;", BY_0, 0, 99, 1, 0, 2, 0, 3, 0);
        runIs("b;b 284;e0 1 0:#0;", BY_0, 28, 0, 29, 0, 30, 0, 31, 0);
        runIs("b;b 2;e0 1 0:#99;", BY_999999, 0, 99, 1, 0);
        runIs("b;b 302;e0 1 0:#1;", BY_999999, 30, 1, 31, 0);
        runIs("b;b 1;e0 1 0:#99;", BY_999999, 0, 99);
        runIs("b;b 311;e0 1 0:#0;", BY_0, 31, 0);
        // what a PARAMETER that gets one had is handed over ahead
        runIs("b;b 1 11;e0 1 0:#7 1;", BY_0, 0, 7, 1, 0);
        runIs("b;b 11 1;e0 1 0:1 #7;", BY_999999, 0, 7, 1, 104);
    }

    // 23: "all at once (way 0), or STEP by STEP (way 1; the same)"

    private static void runRings() {
        runIs("b;b 1 11;e0 1 0:11 1;", BY_0, 0, 220, 1, 0);
        runIs("b;b 1 11 21;e0 1 0:11 21 1;", BY_0, 0, 220, 1, 4, 2, 0);
        runIs("b;b 1 11 21;e0 1 0:21 1 11;", BY_0, 0, 4, 1, 0, 2, 220);
        runIs("b;b 1 11 21;e0 1 0:11 1 1;", BY_0, 0, 220, 1, 0, 2, 0);
        runIs("b;b 1 11 21 31 41 51;e0 1 0:11 21 31 41 51 1;", BY_0, 0, 220, 1, 4, 2, 101, 3, 170, 4, 31, 5, 0);
        runIs("b;b 1 11 21 31 41 51;e0 1 0:11 1 31 21 51 41;", BY_0, 0, 220, 1, 0, 2, 101, 3, 4, 4, 31, 5, 170);
        runIs("b;b 4 44;e0 1 0:44 4;", BY_0, 0, 170, 1, 31, 2, 173, 3, 29, 4, 0, 5, 220, 6, 4, 7, 101);
        runIs("b;b 302 2;e0 1 0:2 302;", BY_999999, 30, 104, 31, 214, 0, 17, 1, 90);
        runIs("b;b 1 311 301;e0 1 0:311 #5 1;", BY_0, 0, 43, 31, 5, 30, 0);
    }

    // 24: "(what 0) ... (1) ... (2) ... (3). BAD."

    private static void wholeEnds() {
        Watch x = watch("24 (0) to (3)").read("b;b 4 82;e0 1 99:44 2;e0 1 99:44 #0;e0 1 0:44 82;e0 1 98;e1 0 9;");
        x.same(99 * 2, "whole", 0).same(2, "whole", 1).same(1, "whole", 2).same(3, "whole", 3);
        x.refused(BAD, "whole", 4).refused(BAD, "whole", -1).refused(BAD, "whole", MOST).refused(BAD, "whole", LEAST);
        x.due(0, "machine", NARROW).same(99 * 6, "whole", 0).due(NARROW, "machine", PAIRED).same(99 * 3, "whole", 0);
        x.due(99, "weight", 1, 0).same(0, "whole", 0).same(3, "whole", 3);
        // the most that there is: 16 EDGES of 9 moves of 4 bytes, each gone 99 times
        x = watch("24 the most").read(SIX).due(0, "machine", NARROW);
        for (int e = 0; e < 16; e++) {
            x.due(e, "edge", 0, 1, 99);
            for (int i = 0; i < 6; i++) {
                x.due(40 * i + 4, "argument", e, i, 40 * (i % 2 == 0 ? i + 1 : i - 1) + 4);
            }
        }
        x.same(16 * 99 * 36, "whole", 0).same(16, "whole", 1).same(0, "whole", 2).same(16 * 9, "whole", 3)
            .same(9, "tail", 1);
    }

    private static void wholeOfNone() {
        Watch x = watch("24 no EDGES");
        Watch y = watch("24 none is CLEAR").read(NOT_CLEAR);
        Watch z = watch("24 none has STEPS").read("b;b 4;e0 1 9;e0 1 9;");
        for (int what = 0; what < 4; what++) {
            x.same(0, "whole", what);
            y.same(what == 2 ? 1 : 0, "whole", what);
            z.same(0, "whole", what);
        }
        y.due(1, "edge", 0, 1, 9).due(4, "argument", 1, 0, 44).due(82, "argument", 1, 1, 2).same(0, "whole", 1)
            .same(2, "whole", 2);
    }

    // 25: "(of like ones the least number); NONE: there is none."

    private static void dearestIsNone() {
        Watch x = watch("25 there is none").same(NONE, "dearest").due(0, "block").same(NONE, "dearest");
        x.read(NOT_CLEAR).same(NONE, "dearest").due(1, "edge", 0, 1, 0).same(1, "dearest").due(0, "weight", 1, 99)
            .same(1, "dearest");
        x.due(2, "argument", 0, 1, 82).same(0, "dearest");
    }

    private static void dearestOfLikeOnes() {
        Watch x = watch("25 of like ones the least number").read("b;b 4 44;e0 1 4:84 44;e0 1 2:84 #1;e0 1 4:#1 44;");
        x.same(0, "dearest").due(4, "weight", 0, 3).same(1, "dearest").due(2, "weight", 1, 1).same(2, "dearest");
        x.due(3, "weight", 0, 0).due(1, "weight", 1, 0).due(4, "weight", 2, 0).same(0, "dearest");
        x.due(0, "weight", 2, 1).same(2, "dearest").due(0, "machine", NARROW).due(0, "weight", 0, 1).same(0, "dearest");
    }

    // 26: "by 0 or more EDGES: how few; NONE. BAD."

    private static void reachBy0OrMore() {
        Watch x = watch("26 by 0 EDGES").due(0, "block").same(0, "reach", 0, 0).due(1, "block").same(NONE, "reach", 0, 1);
        x.refused(BAD, "reach", 2, 0).refused(BAD, "reach", 0, 2).refused(BAD, "reach", -1, 0)
            .refused(BAD, "reach", 0, -1);
        x.refused(BAD, "reach", 2, 2).refused(BAD, "reach", MOST, 0).refused(BAD, "reach", 0, LEAST);
        x.due(0, "edge", 0, 0, 0).same(0, "reach", 0, 0).same(NONE, "reach", 0, 1);
        x.due(1, "edge", 0, 1, 0).same(1, "reach", 0, 1).same(NONE, "reach", 1, 0).same(0, "reach", 1, 1);
        watch("26 by one of 16 EDGES").read("b;b;b;" + "e0 0 0;".repeat(15)).same(NONE, "reach", 0, 1)
            .due(15, "edge", 0, 1, 0).same(1, "reach", 0, 1).same(NONE, "reach", 1, 0).same(NONE, "reach", 0, 2);
        // ten BLOCKS one behind the other, the EDGES last to first, and a shorter way at the end
        x = watch("26 as many as may be").read("b;b;b;b;b;b;b;b;b;b;");
        for (int b = 8; b >= 0; b--) {
            x.due(8 - b, "edge", b, b + 1, 0);
        }
        for (int b = 0; b < 10; b++) {
            x.same(b, "reach", 0, b).same(9 - b, "reach", b, 9).same(b == 0 ? 0 : NONE, "reach", b, 0);
        }
        x.due(9, "edge", 9, 0, 0).same(9, "reach", 1, 0).same(9, "reach", 0, 9).due(10, "edge", 0, 8, 0)
            .same(2, "reach", 0, 9);
    }

    // 27: "By a SEED (0 .. 999999) 8 BLOCKS with n (0 .. 6) PARAMETERS each and m (0 .. 16) EDGES ...: m. BAD."

    private static void drawEnds() {
        Watch x = watch("27 SEED, n, m").read("b 4;b;e1 0 5;");
        for (int wrong : new int[] {-1, MOST, LEAST}) {
            x.refused(BAD, "draw", wrong, 0, 0).refused(BAD, "draw", 0, wrong, 0).refused(BAD, "draw", 0, 0, wrong);
        }
        x.refused(BAD, "draw", 1000000, 6, 16).refused(BAD, "draw", 999999, 7, 16).refused(BAD, "draw", 999999, 6, 17);
        x.same(2, "told", 4).same(1, "told", 5).same(4, "given", 0, 0).same(12, "told", 0);
        for (int seed : new int[] {0, 999999}) {
            x.due(0, "draw", seed, 0, 0).same(8, "told", 4).same(0, "told", 5).same(0, "about", 7, 0);
            x.due(16, "draw", seed, 0, 16).same(8, "told", 4).same(16, "told", 5).same(NONE, "given", 15, 0);
            x.due(0, "draw", seed, 6, 0).same(8, "told", 4).same(0, "told", 5).same(6, "about", 0, 0)
                .same(6, "about", 7, 0);
            x.due(16, "draw", seed, 6, 16).same(16, "told", 5).refused(BAD, "about", 8, 0).refused(BAD, "of", 16, 0);
            x.due(1, "draw", seed, 1, 1).same(1, "about", 7, 0).same(1, "told", 5);
        }
    }

    private static void drawTakesThePlaceOfAll() {
        Watch x = watch("27 take the place of all").read("b 4;b;e1 0 5:#7;").due(0, "machine", 3).due(0, "draw", 0, 0, 0);
        x.same(8, "told", 4).same(0, "told", 5).same(3, "told", 6).same(16, "told", 3).same(0, "about", 0, 0)
            .same(NONE, "region", 0, 0);
        x.due(0, "edge", 7, 0, 0).same(NONE, "given", 0, 0).due(3, "read").same(2, "told", 4).same(-8, "given", 0, 0);
    }

    // 27: "by 65536 (cut), by 3 left over", "by 8 left over", "by 100 left over", "if k is 7; else the REGION at byte 4 k"

    private static void drawRemainders() {
        // an EDGE that is drawn last, of a SEED, and what is due of it: from, to, WEIGHT, ARGUMENT
        int[][] drawn = {{54, 1, 6, 0, 1}, {186, 1, 7, 99, 204}, {1238, 7, 3, 9, -1}, {470, 2, 0, 34, -100}, {3, 0, 7, 93, 244},
            {49, 7, 0, 24, 4}, {0, 2, 2, 61, 162}, {999999, 0, 4, 1, 42}};
        for (int[] row : drawn) {
            Watch x = watch("27 left over, by " + row[0]).due(1, "draw", row[0], 1, 1);
            x.same(row[1], "of", 0, 0).same(row[2], "of", 0, 1).same(row[3], "of", 0, 2).same(row[4], "given", 0, 0);
        }
        int[] widths = {2, 4, 2, 1, 4, 4, 1, 2};
        Watch x = watch("27 by 3 left over").due(1, "draw", 54, 1, 1);
        for (int b = 0; b < 8; b++) {
            x.same(widths[b], "region", b, 0).same(NONE, "region", b, 1);
        }
        int[] six = {4, 44, 81, 124, 161, 202};
        x = watch("27 bytes 4 i on").due(0, "draw", 0, 6, 0);
        for (int i = 0; i < 6; i++) {
            x.same(six[i], "region", 7, i);
        }
    }

    private static void drawDigests() {
        // of SEED, n and m, worked out apart from the class
        long[][] drawn = {{0, 0, 0, 1298228139195403631L}, {0, 6, 0, 8645882226289645170L}, {0, 0, 16, 4650819592294062141L},
            {0, 6, 16, -2100756756747476054L}, {999999, 6, 16, 8941085214209685533L}, {999999, 0, 0, 1298228139195403631L},
            {999999, 1, 1, -3548225235230339297L}, {0, 1, 1, 3980041796093361377L}};
        for (long[] row : drawn) {
            watch("27 digest").due(row[2], "draw", (int) row[0], (int) row[1], (int) row[2]).same(row[3], "digest");
        }
    }

    // 28: "BAD (0), NO (1), FULL (2); bytes of THE TEXT (3), BLOCKS (4), EDGES (5), THE MACHINE's KIND (6). BAD."

    private static void toldEnds() {
        Watch x = watch("28 (0) to (6)").read(NOT_CLEAR).due(0, "machine", 4);
        x.same(0, "told", 0).same(0, "told", 1).same(0, "told", 2).same(21, "told", 3).same(2, "told", 4)
            .same(1, "told", 5).same(4, "told", 6);
        x.refused(BAD, "told", 7).refused(BAD, "told", -1).refused(BAD, "told", MOST).refused(BAD, "told", LEAST);
        x.refused(NO, "cost", 0).refused(NO, "tail", 1).same(4, "told", 0).same(2, "told", 1).same(0, "told", 2);
        x.due(0, "draw", 0, 6, 0).refused(FULL, "parameter", 0, 311).same(1, "told", 2).same(2, "told", 1)
            .same(4, "told", 0);
        // what goes leaves how often as it is
        x.due(0, "anew").due(21, "clear").same(4, "told", 0).same(2, "told", 1).same(1, "told", 2).same(4, "told", 6);
    }

    // 29: "h = 1913; then h = 31 h + v for each v"

    private static void digestOfNoneAndOfAll() {
        watch("29 none").same(mixed(1913, 0, 0, 0, 0, 0, 0, 0), "digest");
        watch("29 a BLOCK").due(0, "block").same(mixed(1913, 0, 0, 0, 0, 1, 0, 0, 0), "digest");
        Watch x = watch("29 an EDGE").due(0, "block").due(0, "parameter", 0, 311).due(0, "edge", 0, 0, 99);
        x.same(mixed(1913, 0, 0, 0, 0, 1, 1, 0, 1, 311, 0, 0, 99, 311), "digest").due(311, "argument", 0, 0, -100);
        x.due(BAD, "told", 7).due(NO, "parameter", 0, 311).due(1, "type", 'b').due(0, "machine", 4);
        x.same(mixed(1913, 1, 1, 0, 1, 1, 1, 4, 1, 311, 0, 0, 99, -100), "digest");
        int[] all = new int[7 + 10 * 7 + 16 * 9];
        Watch full = watch("29 all");
        for (int b = 0; b < 10; b++) {
            full.due(b, "block");
            all[7 + 7 * b] = 6;
            for (int i = 0; i < 6; i++) {
                all[8 + 7 * b + i] = 10 * (2 * b + i) + 1;
                full.due(i, "parameter", b, 10 * (2 * b + i) + 1);
            }
        }
        for (int e = 0; e < 16; e++) {
            full.due(e, "edge", e % 10, 9 - e % 9, 99 - e);
            int at = 77 + 9 * e;
            all[at] = e % 10;
            all[at + 1] = 9 - e % 9;
            all[at + 2] = 99 - e;
            System.arraycopy(all, 8 + 7 * (9 - e % 9), all, at + 3, 6);
        }
        full.due(FULL, "block").due(FULL, "edge", 0, 0, 0).due(FULL, "parameter", 0, 311).type("b".repeat(120))
            .due(FULL, "type", 0);
        all[2] = 4;
        all[3] = 120;
        all[4] = 10;
        all[5] = 16;
        full.due(mixed(1913, all), "digest").due(mixed(1913, all), "digest");
    }
}
