import java.util.ArrayList;
import java.util.List;

/** Each sentence of the document's "Terms" that names a boundary: what is as told last, and what is not first. */
public final class TermsBoundsTest {
    private static final int NONE = -201, BAD = -202, NO = -203, FULL = -204;
    private static final int LEAST = Integer.MIN_VALUE, MOST = Integer.MAX_VALUE;
    private static final Checks CHECKS = new Checks("TermsBoundsTest");

    private static final int[] WIDTHS = {1, 2, 4};
    private static final int PLAIN = 0, CHANGER = 1, THRICE = 2, NARROW = 3, PAIRED = 4;
    private static final int MOVE = 0, CHANGE = 1, SETTING = 2;
    private static final String SIX = "b;b 4 44 84 124 164 204;";

    public static void main(String[] args) {
        regionsAreTold();
        argumentsAreRegionsAsWide();
        parametersAreNotLikeOrAcross();
        acrossAreUnlikeWithAByteInCommon();
        blocksAreTen();
        parametersAreSix();
        edgesAreSixteen();
        edgesMayBeAlike();
        weightsEndAt99();
        constantsEndAt99();
        argumentsAreTheParametersAtFirst();
        clearCountsWhatHasNotItself();
        clearOfOneOrNoParameter();
        kindsAreFive();
        stepsOfOneCost();
        changesOfOneRingCost();
        someMachinesCanNotChange();
        nothingIsOpen();
        oneIsOpen();
        leastByteIsFirst();
        whatTwoWantLiesInTheFirst();
        ringsOfTheWholeBlock();
        ringsOfTheLeastByteFirst();
        spareIsNoRegion();
        settingsAreLastByBytesRising();
        onlyEdgeFrom();
        onlyEdgeTo();
        loopsAreFromAndTo();
        CHECKS.end();
    }

    private static Watch watch(String sentence) {
        return new Watch(CHECKS, sentence);
    }

    private static List<Integer> regions(int w) {
        List<Integer> regions = new ArrayList<>();
        for (int b = 0; b + w <= 32; b += w) {
            regions.add(10 * b + w);
        }
        return regions;
    }

    private static List<Integer> allRegions() {
        List<Integer> all = new ArrayList<>();
        for (int w : WIDTHS) {
            all.addAll(regions(w));
        }
        return all;
    }

    /** The bytes of a region, a bit for each. */
    private static long bytes(int region) {
        return ((1L << region % 10) - 1) << region / 10;
    }

    private static boolean areAcross(int one, int other) {
        return one != other && (bytes(one) & bytes(other)) != 0;
    }

    // "A REGION is told by 10 b and w: w (1, 2, 4) bytes from byte b on (w divides b; b and w together 32 at most)."

    private static void regionsAreTold() {
        for (int number = -50; number <= 1000; number++) {
            Watch x = watch("a REGION").due(0, "block");
            if (allRegions().contains(number)) {
                x.due(0, "parameter", 0, number).due(number, "region", 0, 0);
            } else {
                x.refused(BAD, "parameter", 0, number).same(0, "about", 0, 0);
            }
        }
        Watch x = watch("b and w together 32").due(0, "block");
        x.due(0, "parameter", 0, 311).due(1, "parameter", 0, 282).due(2, "parameter", 0, 244);
        x.refused(BAD, "parameter", 0, 321).refused(BAD, "parameter", 0, 322).refused(BAD, "parameter", 0, 324);
        x.refused(BAD, "parameter", 0, 312).refused(BAD, "parameter", 0, 304).refused(BAD, "parameter", 0, 314);
        x.refused(BAD, "parameter", 0, MOST).refused(BAD, "parameter", 0, LEAST).refused(BAD, "parameter", 0, -6);
        x = watch("the last REGION of each width");
        x.read("b 284;b 302;b 311;").due(284, "region", 0, 0).due(302, "region", 1, 0).due(311, "region", 2, 0);
    }

    // "an ARGUMENT: a REGION as wide, or a CONSTANT c (0 .. 99; told by -1 less c)"

    private static void argumentsAreRegionsAsWide() {
        int[] parameters = {1, 22, 44};
        for (int what = -130; what <= 1000; what++) {
            Watch x = watch("an ARGUMENT").read("b 1 22 44;e0 0 0;");
            for (int i = 0; i < 3; i++) {
                boolean isConstant = what < 0 && what >= -100;
                if (isConstant || regions(WIDTHS[i]).contains(what)) {
                    x.due(parameters[i], "argument", 0, i, what).due(what, "given", 0, i);
                } else {
                    x.refused(BAD, "argument", 0, i, what).same(parameters[i], "given", 0, i);
                }
            }
        }
        Watch x = watch("an ARGUMENT").read("b 1 22 44;e0 0 0;");
        x.refused(BAD, "argument", 0, 0, LEAST).refused(BAD, "argument", 0, 0, MOST);
    }

    // "PARAMETERS 0 .. 5, as they come: REGIONS, none like or ACROSS another one of the BLOCK"

    private static void parametersAreNotLikeOrAcross() {
        for (int one : allRegions()) {
            for (int other : allRegions()) {
                Watch x = watch("like or ACROSS").due(0, "block").due(0, "parameter", 0, one);
                if (one == other || areAcross(one, other)) {
                    x.refused(NO, "parameter", 0, other).same(NONE, "region", 0, 1);
                } else {
                    x.due(1, "parameter", 0, other).due(other, "region", 0, 1);
                }
            }
        }
        watch("of the BLOCK: another one may have the like").due(0, "block").due(1, "block")
            .due(0, "parameter", 0, 4).due(0, "parameter", 1, 4).due(1, "parameter", 1, 42)
                .refused(NO, "parameter", 0, 22);
    }

    // "Two REGIONS are ACROSS, if they are unlike and have a byte in common."

    private static void acrossAreUnlikeWithAByteInCommon() {
        int[] second = {41, 42, 44};
        for (int w = 0; w < 3; w++) {
            for (int one : regions(4)) {
                for (int other : regions(WIDTHS[w])) {
                    int want = isClear(4, one, second[w], other) ? 1 : 0;
                    watch("CLEAR, if no two are ACROSS").due(0, "block").due(0, "parameter", 0, 4)
                        .due(1, "parameter", 0, second[w]).due(0, "edge", 0, 0, 0)
                        .due(4, "argument", 0, 0, one).due(second[w], "argument", 0, 1, other)
                        .same(want, "of", 0, 3).same(1 - want, "whole", 2);
                }
            }
        }
    }

    private static boolean isClear(int one, int oneGets, int other, int otherGets) {
        List<Integer> all = new ArrayList<>();
        if (oneGets != one) {
            all.addAll(List.of(one, oneGets));
        }
        if (otherGets != other) {
            all.addAll(List.of(other, otherGets));
        }
        return all.stream().noneMatch(a -> all.stream().anyMatch(b -> areAcross(a, b)));
    }

    // "BLOCKS 0 .. 9, as they come"

    private static void blocksAreTen() {
        Watch x = watch("BLOCKS 0 .. 9");
        x.same(0, "told", 4).refused(BAD, "about", 0, 0).refused(BAD, "about", -1, 0);
        for (int b = 0; b < 10; b++) {
            x.refused(BAD, "about", b, 0).due(b, "block").same(0, "about", b, 0);
        }
        x.same(10, "told", 4).refused(FULL, "block").refused(FULL, "block").same(10, "told", 4);
        x.refused(BAD, "about", 10, 0).same(0, "about", 9, 0).same(0, "about", 0, 0);
        x.due(0, "parameter", 9, 4).due(0, "edge", 9, 9, 0).same(1, "about", 9, 2).same(0, "about", 0, 2);
        x.refused(BAD, "parameter", 10, 4).refused(BAD, "parameter", -1, 4);
        x.refused(BAD, "edge", 10, 0, 0).refused(BAD, "edge", 0, 10, 0);
        x.refused(BAD, "edge", -1, 0, 0).refused(BAD, "edge", 0, -1, 0);
        x.same(4, "region", 9, 0).refused(BAD, "region", 10, 0).refused(BAD, "region", -1, 0);
        x.same(0, "tail", 9).refused(BAD, "tail", 10).refused(BAD, "tail", -1);
        x.same(0, "reach", 9, 9).refused(BAD, "reach", 10, 0).refused(BAD, "reach", 0, 10);
        x.refused(BAD, "reach", -1, 0).refused(BAD, "reach", 0, -1);
        x.refused(BAD, "tail", MOST).refused(BAD, "tail", LEAST);
    }

    // "each with PARAMETERS 0 .. 5, as they come"

    private static void parametersAreSix() {
        int[] regions = {204, 164, 124, 84, 44, 4};
        Watch x = watch("PARAMETERS 0 .. 5").due(0, "block").due(1, "block").due(0, "edge", 0, 0, 0);
        x.same(0, "about", 0, 0).same(NONE, "region", 0, 0).same(NONE, "given", 0, 0).refused(BAD, "argument", 0, 0, -1);
        for (int i = 0; i < 6; i++) {
            x.same(NONE, "region", 0, i).refused(BAD, "argument", 0, i, -1);
            x.due(i, "parameter", 0, regions[i]).same(i + 1, "about", 0, 0);
        }
        x.refused(FULL, "parameter", 0, 244).refused(FULL, "parameter", 0, 311).same(6, "about", 0, 0);
        x.same(4, "region", 0, 5).same(NONE, "region", 0, 6).same(204, "region", 0, 0);
        x.refused(BAD, "argument", 0, 6, -1).refused(BAD, "argument", 0, -1, -1);
        x.due(4, "argument", 0, 5, -1).due(-1, "given", 0, 5).same(204, "given", 0, 0);
        x.due(0, "parameter", 1, 244).same(1, "about", 1, 0);
    }

    // "EDGES 0 .. 15, as they come"

    private static void edgesAreSixteen() {
        Watch x = sixteenEdges().same(16, "told", 5).refused(FULL, "edge", 0, 0, 0).refused(FULL, "edge", 0, 0, 99);
        x.same(16, "told", 5).same(84, "of", 15, 2).same(99, "of", 0, 2).same(16, "about", 0, 1).same(16, "about", 0, 2);
        edgeNumbersEnd(sixteenEdges(), 15);
        edgeNumbersEnd(watch("EDGES 0 .. 15, of one").read("b 4;e0 0 0;"), 0);
        edgeNumbersEnd(watch("no EDGES").due(0, "block"), -1);
    }

    private static Watch sixteenEdges() {
        Watch x = watch("EDGES 0 .. 15").due(0, "block").due(0, "parameter", 0, 4);
        for (int e = 0; e < 16; e++) {
            x.due(BAD, "of", e, 2).due(e, "edge", 0, 0, 99 - e).due(99 - e, "of", e, 2);
        }
        return x;
    }

    private static void edgeNumbersEnd(Watch x, int last) {
        if (last >= 0) {
            x.due(4, "argument", last, 0, -1).due(-1, "argument", last, 0, 4);
            x.ask("weight", last, 9);
            x.same(9, "weight", last, 9).same(9, "of", last, 2).same(4, "given", last, 0).same(0, "steps", last, 0);
            x.same(NONE, "step", last, 0, 0).same(0, "cost", last).same(0, "rings", last, 0).same(0, "cheapest", last, 1);
            x.same(44, "free", last, 4).same(3473498635648015767L, "run", last, 0, 0);
        }
        for (int e : new int[] {-1, last + 1, MOST, LEAST}) {
            x.refused(BAD, "argument", e, 0, 4).refused(BAD, "weight", e, 9).refused(BAD, "of", e, 2);
            x.refused(BAD, "given", e, 0).refused(BAD, "steps", e, 0).refused(BAD, "step", e, 0, 0);
            x.refused(BAD, "cost", e).refused(BAD, "rings", e, 0).refused(BAD, "cheapest", e, 1);
            x.refused(BAD, "free", e, 4).refused(BAD, "run", e, 0, 0);
        }
    }

    // "from a BLOCK to a BLOCK (several may be alike)"

    private static void edgesMayBeAlike() {
        Watch x = watch("several may be alike").read("b;b 4;e0 1 7:44;e0 1 7:44;e0 1 7:44;");
        for (int e = 0; e < 3; e++) {
            x.same(0, "of", e, 0).same(1, "of", e, 1).same(7, "of", e, 2).same(44, "given", e, 0);
        }
        x.due(3, "edge", 0, 1, 7).due(4, "argument", 3, 0, 84).same(44, "given", 2, 0).same(84, "given", 3, 0);
    }

    // "a WEIGHT (0 .. 99)"

    private static void weightsEndAt99() {
        Watch x = watch("a WEIGHT").due(0, "block");
        x.due(0, "edge", 0, 0, 0).due(1, "edge", 0, 0, 99).same(0, "of", 0, 2).same(99, "of", 1, 2);
        for (int w : new int[] {-1, 100, MOST, LEAST}) {
            x.refused(BAD, "edge", 0, 0, w).refused(BAD, "weight", 0, w).same(2, "told", 5).same(0, "of", 0, 2);
        }
        x.due(0, "weight", 0, 99).due(99, "weight", 1, 0).due(99, "of", 0, 2).due(0, "of", 1, 2);
    }

    // "a CONSTANT c (0 .. 99; told by -1 less c)"

    private static void constantsEndAt99() {
        Watch x = watch("a CONSTANT").read("b;b 4 42;e0 1 0:#0 #99;");
        x.same(-1, "given", 0, 0).same(-100, "given", 0, 1).steps(0, SETTING, 4, -1, SETTING, 42, -100);
        x.due(-1, "argument", 0, 0, -100).due(-100, "argument", 0, 1, -1);
        x.same(-100, "given", 0, 0).same(-1, "given", 0, 1).steps(0, SETTING, 4, -100, SETTING, 42, -1);
        x.refused(BAD, "argument", 0, 0, -101).refused(BAD, "argument", 0, 1, -101).same(-100, "given", 0, 0);
        x.refused(BAD, "argument", 0, 0, LEAST).same(-100, "given", 0, 0).due(-100, "argument", 0, 0, 4);
    }

    // "at first the PARAMETER itself"

    private static void argumentsAreTheParametersAtFirst() {
        Watch x = watch("at first the PARAMETER itself").read("b 4 42;b 81;e0 0 0;e0 1 0;");
        x.same(4, "given", 0, 0).same(42, "given", 0, 1).same(81, "given", 1, 0).same(NONE, "given", 1, 1);
        x.due(4, "argument", 0, 0, -8).due(2, "parameter", 0, 311).due(311, "given", 0, 2).same(-8, "given", 0, 0);
        x.due(2, "edge", 0, 0, 0).same(4, "given", 2, 0).same(42, "given", 2, 1).same(311, "given", 2, 2);
        // what an EDGE had that went is not seen in the one that comes in its place
        x.due(3, "anew").due(0, "block").due(0, "parameter", 0, 84).due(0, "edge", 0, 0, 0).same(84, "given", 0, 0);
        x.due(1, "parameter", 0, 4).same(4, "given", 0, 1).same(1, "of", 0, 3).same(0, "steps", 0, 0);
    }

    // "CLEAR, if no two REGIONS among PARAMETERS that do not have themselves as ARGUMENT and REGIONS that are
    // ARGUMENTS of these are ACROSS"

    private static void clearCountsWhatHasNotItself() {
        String sentence = "PARAMETERS that do not have themselves";
        Watch x = watch(sentence).read("b 4 82;e0 0 0;");
        x.same(1, "of", 0, 3);
        // 84 is across 82 that has itself, and 82 counts as soon as it has not
        x.due(4, "argument", 0, 0, 84).same(1, "of", 0, 3).same(1, "steps", 0, 0);
        x.due(82, "argument", 0, 1, -1).same(0, "of", 0, 3).refused(NO, "steps", 0, 0);
        x.due(-1, "argument", 0, 1, 122).same(0, "of", 0, 3).refused(NO, "cost", 0);
        x.due(122, "argument", 0, 1, 82).same(1, "of", 0, 3).same(1, "cost", 0);
        sentence = "REGIONS that are ARGUMENTS of these";
        x = watch(sentence).read("b 4 82;e0 0 0:124 142;");
        // the bytes 12 to 15 have 14 in common with it, not 16, and not 11
        x.same(0, "of", 0, 3).due(142, "argument", 0, 1, 162).same(1, "of", 0, 3);
        x.due(162, "argument", 0, 1, 102).same(1, "of", 0, 3).due(102, "argument", 0, 1, 122).same(0, "of", 0, 3);
        sentence = "like ones are not ACROSS";
        x = watch(sentence).read("b 4 84;e0 0 0:124 124;");
        x.same(1, "of", 0, 3).due(124, "argument", 0, 1, 4).same(1, "of", 0, 3).due(4, "argument", 0, 1, 44)
            .same(1, "of", 0, 3);
    }

    private static void clearOfOneOrNoParameter() {
        Watch x = watch("CLEAR of no PARAMETERS").read("b 4;b;e0 1 0;").same(1, "of", 0, 3).same(0, "whole", 2);
        x = watch("CLEAR of one PARAMETER").read("b 4;e0 0 0;");
        for (int region : regions(4)) {
            x.ask("argument", 0, 0, region);
            x.same(1, "of", 0, 3);
        }
        x.due(284, "argument", 0, 0, -1).same(1, "of", 0, 3);
    }

    // "MACHINES have a KIND, 0 .. 4 (THE MACHINE's is 0 at first)"

    private static void kindsAreFive() {
        Watch x = watch("a KIND, 0 .. 4");
        x.same(0, "told", 6).same(0, "machine", 0);
        for (int kind = 0; kind < 5; kind++) {
            x.due(Math.max(kind - 1, 0), "machine", kind).same(kind, "told", 6);
        }
        x.refused(BAD, "machine", 5).refused(BAD, "machine", -1).same(4, "told", 6);
        x.refused(BAD, "machine", MOST).refused(BAD, "machine", LEAST).due(4, "machine", 0).same(0, "told", 6);
    }

    // "0 PLAIN: 1 ... 3 NARROW (a PLAIN): PLAIN's w times ... 4 PAIRED (a NARROW): half (cut up) of NARROW's",
    // "SETTING (costs as a move)"

    private static void stepsOfOneCost() {
        int[][] costs = {{1, 1, 1}, {1, 1, 1}, {1, 1, 1}, {1, 2, 4}, {1, 1, 2}};
        int[] far = {311, 302, 284};
        for (int kind = 0; kind < 5; kind++) {
            for (int w = 0; w < 3; w++) {
                Watch x = watch("a STEP that moves w bytes costs").due(0, "machine", kind).due(0, "block");
                x.due(0, "parameter", 0, WIDTHS[w]).due(0, "edge", 0, 0, 0).same(0, "cost", 0);
                x.due(WIDTHS[w], "argument", 0, 0, far[w]).same(costs[kind][w], "cost", 0);
                x.due(far[w], "argument", 0, 0, -1).same(costs[kind][w], "cost", 0);
            }
        }
    }

    // "if THE MACHINE can change about and n less 1 times that costs less than n and 1 times a move: n less 1 CHANGES"

    private static Watch ring(String sentence, int kind, int w, int n) {
        Watch x = watch(sentence + " (KIND " + kind + ", " + w + " bytes, ring of " + n + ")");
        x.due(0, "machine", kind).due(0, "block").due(1, "block").due(0, "edge", 0, 1, 1);
        for (int i = 0; i < n; i++) {
            x.due(i, "parameter", 1, 10 * w * i + w);
        }
        for (int i = 0; i < n; i++) {
            x.due(10 * w * i + w, "argument", 0, i, 10 * w * ((i + 1) % n) + w);
        }
        return x;
    }

    private static void changesOfOneRingCost() {
        // of KIND, width and how many: what all steps cost, and how many of these are changes
        int[][] changed = {
            {CHANGER, 1, 2, 1, 1}, {CHANGER, 4, 2, 1, 1}, {CHANGER, 2, 3, 2, 2}, {CHANGER, 4, 6, 5, 5},
            {THRICE, 1, 2, 3, 0}, {THRICE, 4, 2, 3, 0}, {THRICE, 4, 3, 4, 0}, {THRICE, 2, 6, 7, 0},
            {PLAIN, 1, 2, 3, 0}, {PLAIN, 4, 6, 7, 0}, {NARROW, 1, 2, 3, 0}, {NARROW, 2, 2, 6, 0}, {NARROW, 4, 2, 12, 0},
            {NARROW, 4, 6, 28, 0}, {PAIRED, 1, 2, 2, 1}, {PAIRED, 1, 3, 4, 0}, {PAIRED, 1, 4, 5, 0}, {PAIRED, 2, 2, 2, 1},
            {PAIRED, 2, 3, 4, 0}, {PAIRED, 2, 6, 7, 0}, {PAIRED, 4, 2, 3, 1}, {PAIRED, 4, 3, 6, 2}, {PAIRED, 4, 4, 9, 3},
            {PAIRED, 4, 5, 12, 0}, {PAIRED, 4, 6, 14, 0}};
        for (int[] row : changed) {
            Watch x = ring("less than n and 1 times a move", row[0], row[1], row[2]);
            x.same(row[3], "cost", 0).same(row[4], "steps", 0, 2).same(row[4] == 0 ? 1 : 0, "steps", 0, 4);
            x.same(row[4] == 0 ? row[2] + 1 : 0, "steps", 0, 1).same(0, "steps", 0, 3);
        }
    }

    // "(0: there is none)"

    private static void someMachinesCanNotChange() {
        for (int kind : new int[] {PLAIN, NARROW}) {
            for (int w : WIDTHS) {
                for (int n = 2; n <= 6; n++) {
                    Watch x = ring("0: there is none", kind, w, n);
                    x.same(0, "steps", 0, 2).same(n + 1, "steps", 0, 1).same(1, "steps", 0, 4);
                }
            }
        }
    }

    // "As long as any is OPEN"

    private static void nothingIsOpen() {
        String[] texts = {"b;b;e0 1 9;", "b;b 4 42 311;e0 1 9;", "b;e0 0 9;", SIX + "e0 1 9:4 44 84 124 164 204;"};
        for (String text : texts) {
            Watch x = watch("nothing OPEN").read(text);
            for (int kind = 0; kind < 5; kind++) {
                x.ask("machine", kind);
                for (int what = 0; what < 5; what++) {
                    x.same(0, "steps", 0, what);
                }
                x.same(NONE, "step", 0, 0, 0).same(0, "cost", 0).same(0, "whole", 0).same(0, "whole", 3);
            }
            x.same(0, "rings", 0, 0).same(0, "rings", 0, 1).same(0, "rings", 0, 2);
            x.same(0, "cheapest", 0, 0).same(0, "cheapest", 0, 1).same(0, "dearest");
            x.same(3473498635648015767L, "run", 0, 0, 0).same(3473498635648015767L, "run", 0, 0, 1);
        }
        Watch x = watch("nothing OPEN, but CONSTANTS").read("b;b 4 42;e0 1 9:#0 #9;");
        x.same(0, "rings", 0, 0).same(0, "rings", 0, 1).same(0, "rings", 0, 2).steps(0, SETTING, 4, -1, SETTING, 42, -10);
    }

    private static void oneIsOpen() {
        Watch x = watch("one OPEN").read("b;b 4 42;e0 1 9:284 42;").steps(0, MOVE, 4, 284);
        x.same(0, "rings", 0, 0).same(0, "rings", 0, 1).same(1, "rings", 0, 2);
        // what it wants is a PARAMETER that has itself, or a CONSTANT
        watch("one OPEN").read("b;b 4 44;e0 1 9:44 44;").steps(0, MOVE, 4, 44).same(1, "rings", 0, 2);
        watch("one OPEN").read("b;b 4 44;e0 1 9:44 #0;").steps(0, MOVE, 4, 44, SETTING, 44, -1).same(1, "rings", 0, 2);
        watch("one OPEN").read("b;b 4 44;e0 1 9:#0 4;").steps(0, MOVE, 44, 4, SETTING, 4, -1).same(1, "rings", 0, 2);
    }

    // "of OPEN PARAMETERS in which nothing LIES that an OPEN one wants, the one of the least byte"

    private static void leastByteIsFirst() {
        watch("the one of the least byte").read("b;b 281 22 1;e0 1 0:311 242 261;")
            .steps(0, MOVE, 1, 261, MOVE, 22, 242, MOVE, 281, 311);
        // 44 is wanted by 84 at first, and is free behind it, ahead of 124
        watch("nothing LIES that an OPEN one wants").read("b;b 124 84 44;e0 1 0:164 44 204;")
            .steps(0, MOVE, 84, 44, MOVE, 44, 204, MOVE, 124, 164);
        // the one that it waits for comes of itself to be the one of the least byte
        watch("nothing LIES that an OPEN one wants").read("b;b 4 44 84;e0 1 0:164 4 204;")
            .steps(0, MOVE, 44, 4, MOVE, 4, 164, MOVE, 84, 204);
    }

    // "what it wanted LIES in it from now on"

    private static void whatTwoWantLiesInTheFirst() {
        watch("LIES in it from now on").read(SIX + "e0 1 0:244 244 244 244 244 244;")
            .steps(0, MOVE, 4, 244, MOVE, 44, 4, MOVE, 84, 44, MOVE, 124, 84, MOVE, 164, 124, MOVE, 204, 164);
        // a ring and one that wants of it: free as soon as that one has it, and no ring is left
        watch("LIES in it from now on").read("b;b 4 44 84;e0 1 0:44 4 4;").same(0, "steps", 0, 4)
            .steps(0, MOVE, 84, 4, MOVE, 4, 44, MOVE, 44, 84);
        // what one that has itself had is taken from where it came to
        watch("LIES in it from now on").read("b;b 4 44 84;e0 1 0:84 84 84;").steps(0, MOVE, 4, 84, MOVE, 44, 4);
    }

    // "Is there none, all that are OPEN make rings", "none of them is OPEN then; else a MOVE to THE SPARE from p"

    private static void ringsOfTheWholeBlock() {
        ring("a ring of the whole BLOCK", PLAIN, 4, 6).same(1, "rings", 0, 0).same(6, "rings", 0, 1)
            .same(0, "rings", 0, 2)
            .steps(0, MOVE, 324, 4, MOVE, 4, 44, MOVE, 44, 84, MOVE, 84, 124, MOVE, 124, 164, MOVE, 164, 204, MOVE, 204, 324);
        ring("a ring of the whole BLOCK", CHANGER, 4, 6)
            .steps(0, CHANGE, 4, 44, CHANGE, 44, 84, CHANGE, 84, 124, CHANGE, 124, 164, CHANGE, 164, 204);
        ring("the least ring", PLAIN, 1, 2).same(2, "rings", 0, 1).steps(0, MOVE, 321, 1, MOVE, 1, 11, MOVE, 11, 321);
        ring("the least ring", CHANGER, 1, 2).steps(0, CHANGE, 1, 11);
        Watch x = watch("three rings, as many as there may be").read(SIX + "e0 1 0:44 4 124 84 204 164;");
        x.same(3, "rings", 0, 0).same(2, "rings", 0, 1).same(0, "rings", 0, 2).same(3, "steps", 0, 4);
        x.steps(0, MOVE, 324, 4, MOVE, 4, 44, MOVE, 44, 324, MOVE, 324, 84, MOVE, 84, 124, MOVE, 124, 324,
            MOVE, 324, 164, MOVE, 164, 204, MOVE, 204, 324);
        x.due(0, "machine", CHANGER).steps(0, CHANGE, 4, 44, CHANGE, 84, 124, CHANGE, 164, 204);
    }

    // "of the ring in which the OPEN one p of the least byte is"

    private static void ringsOfTheLeastByteFirst() {
        Watch x = watch("the OPEN one p of the least byte").read("b;b 204 4 164 44;e0 1 0:44 164 4 204;");
        x.steps(0, MOVE, 324, 4, MOVE, 4, 164, MOVE, 164, 324, MOVE, 324, 44, MOVE, 44, 204, MOVE, 204, 324);
        x.due(0, "machine", CHANGER).steps(0, CHANGE, 4, 164, CHANGE, 44, 204);
        // one of 4 bytes is changed about by PAIRED, one of three of 2 bytes goes by THE SPARE
        x = watch("each ring for itself").read("b;b 42 62 82 4 124;e0 1 0:62 82 42 124 4;").due(0, "machine", PAIRED);
        x.steps(0, CHANGE, 4, 124, MOVE, 322, 42, MOVE, 42, 62, MOVE, 62, 82, MOVE, 82, 322).same(3 + 4, "cost", 0);
    }

    // "PLACES are bytes 0 .. 31 and THE SPARE", "THE SPARE is told by 320 and the width"

    private static void spareIsNoRegion() {
        for (int w : WIDTHS) {
            Watch x = ring("320 and the width", PLAIN, w, 3);
            x.same(320 + w, "step", 0, 0, 1).same(w, "step", 0, 0, 2).same(20 * w + w, "step", 0, 3, 1)
                .same(320 + w, "step", 0, 3, 2);
            x.refused(BAD, "argument", 0, 0, 320 + w).refused(BAD, "parameter", 1, 320 + w);
            x.same(10 * (w == 4 ? 12 : 3 * w) + w, "free", 0, w);
        }
    }

    // "Behind all: for each PARAMETER that has a CONSTANT, by bytes rising, a SETTING of it"

    private static void settingsAreLastByBytesRising() {
        watch("by bytes rising").read(SIX.replace("4 44", "44 4") + "e0 1 0:#0 #99 #2 #3 #4 #5;")
            .steps(0, SETTING, 4, -100, SETTING, 44, -1, SETTING, 84, -3, SETTING, 124, -4, SETTING, 164, -5, SETTING, 204, -6);
        watch("Behind all").read("b;b 284 4;e0 1 0:4 #0;").steps(0, MOVE, 284, 4, SETTING, 4, -1);
        watch("Behind all").read("b;b 4 44 84;e0 1 0:#7 84 44;")
            .steps(0, MOVE, 324, 44, MOVE, 44, 84, MOVE, 84, 324, SETTING, 4, -8);
        watch("no CONSTANTS").read("b;b 4;e0 1 0:44;").same(0, "steps", 0, 3).steps(0, MOVE, 4, 44);
    }

    // "the end of the BLOCK an EDGE comes from (0), if that is the only EDGE from it"

    private static void onlyEdgeFrom() {
        Watch x = watch("the only EDGE from it").read("b;b 4;b 4;e0 1 0;");
        // the only one to it, too
        x.same(0, "of", 0, 4).due(1, "edge", 2, 1, 0).same(0, "of", 0, 4).same(0, "of", 1, 4);
        x.due(2, "edge", 0, 2, 0).same(2, "of", 0, 4).same(0, "of", 1, 4).same(1, "of", 2, 4);
        x.due(3, "anew").due(0, "block").due(1, "block").due(0, "edge", 0, 1, 0).same(0, "of", 0, 4);
    }

    // "else to the beginning of the one it goes to (1), if that is the only EDGE to it; else the EDGE is split (2)"

    private static void onlyEdgeTo() {
        Watch x = watch("the only EDGE to it").read("b;b 4;b 4;e0 1 0:44;e0 2 0:44;");
        x.same(1, "of", 0, 4).same(1, "of", 1, 4).same(0, "whole", 1);
        x.due(2, "edge", 0, 1, 0).same(2, "of", 0, 4).same(1, "of", 1, 4).same(2, "of", 2, 4);
        x.same(1, "whole", 1).due(4, "argument", 2, 0, -1).same(2, "whole", 1);
        // alike ones are two
        x = watch("else the EDGE is split").read("b;b 4;e0 1 0;e0 1 0;").same(2, "of", 0, 4).same(2, "of", 1, 4);
        x.same(0, "whole", 1).due(4, "argument", 1, 0, 44).same(1, "whole", 1);
    }

    private static void loopsAreFromAndTo() {
        watch("a loop alone").read("b;e0 0 0;").same(0, "of", 0, 4).same(1, "about", 0, 1).same(1, "about", 0, 2);
        watch("a loop, and one from it").read("b;b;e0 0 0;e0 1 0;").same(1, "of", 0, 4).same(1, "of", 1, 4);
        watch("a loop, and one to it").read("b;b;e0 0 0;e1 0 0;").same(0, "of", 0, 4).same(0, "of", 1, 4);
        watch("two loops").read("b;e0 0 0;e0 0 0;").same(2, "of", 0, 4).same(2, "of", 1, 4);
    }
}
