import java.util.List;

/** Each sentence on THE TEXT that names a boundary: the last text that is as told, and the first that is not. */
public final class TextBoundsTest {
    private static final int NONE = -201, BAD = -202, FULL = -204;
    private static final Checks CHECKS = new Checks("TextBoundsTest");

    private static final String TEN_BLOCKS = "b;".repeat(10);
    private static final String SIXTEEN_EDGES = "e0 0 0;".repeat(16);
    private static final String[] SIX = {" 4", " 44", " 84", " 124", " 164", " 204"};

    private static String sentence = "";

    public static void main(String[] args) {
        textHas120BytesAtMost();
        bytesAre0To127();
        itemsAreEndedBySemicolons();
        itemsAreAsManyAsThereIsRoomFor();
        blocksHave0To6Numbers();
        edgesHaveThreeNumbers();
        argumentsArePerhapsTold();
        numbersHave1To3Figures();
        blanksMayStandAnywhere();
        blanksMayNotStandWithin();
        onlyBlanksAreBlank();
        anyByteBehindItems();
        anyByteBehindArguments();
        parametersNotAsTold();
        parametersLikeOrAcross();
        blocksNotAsTold();
        blocksAreToldAhead();
        weightsNotAsTold();
        regionsNotAsWide();
        constantsNotAsTold();
        eleventhBlock();
        seventeenthEdge();
        noneToCome();
        missingOrTooMany();
        endsTooEarly();
        emptyTexts();
        takesThePlaceOfAll();
        allStays();
        CHECKS.end();
    }

    private static Watch watch() {
        return new Watch(CHECKS, sentence);
    }

    /** An object that has something to lose. */
    private static Watch watchOfSome() {
        Watch x = watch().due(0, "block").due(1, "block").due(0, "parameter", 1, 44).due(0, "edge", 0, 1, 7);
        return x.due(44, "argument", 0, 0, -6).due(0, "machine", 2).due(BAD, "told", 7);
    }

    private static void faultIs(String text, int fault) {
        watchOfSome().type(text).same(-300 - fault, "read");
    }

    private static void itemsAre(String text, int items) {
        watchOfSome().type(text).due(items, "read").same(text.length(), "told", 3);
    }

    private static void isAsTold(String text, boolean is, int items, int fault) {
        if (is) {
            itemsAre(text, items);
        } else {
            faultIs(text, fault);
        }
    }

    private static boolean isRegion(int number) {
        return isRegion(number, 1) || isRegion(number, 2) || isRegion(number, 4);
    }

    private static boolean isRegion(int number, int w) {
        int b = number / 10;
        return number % 10 == w && b % w == 0 && b + w <= 32;
    }

    private static void textHas120BytesAtMost() {
        sentence = "THE TEXT (120 bytes at most)";
        Watch x = watch().same(0, "told", 3);
        for (int n = 1; n <= 120; n++) {
            x.due(n, "type", n == 119 ? 'b' : n == 120 ? ';' : ' ');
        }
        x.same(120, "told", 3).refused(FULL, "type", 'x').refused(FULL, "type", 0).refused(BAD, "type", 128)
            .same(120, "told", 3);
        // the byte that was refused is not there
        x.due(1, "read").same(1, "told", 4).due(120, "clear").same(0, "told", 3).due(0, "clear").due(1, "type", 'x');
        x = watch().type(" ".repeat(119) + "b").same(-420, "read").refused(FULL, "type", ';').same(-420, "read");
        itemsAre(" ".repeat(118) + "b;", 1);
        itemsAre("b;" + " ".repeat(118), 1);
        faultIs("b;" + " ".repeat(117) + "x", 119);
        faultIs(" ".repeat(120), 120);
        itemsAre("b;" + SIXTEEN_EDGES + "    b;", 18);
    }

    private static void bytesAre0To127() {
        sentence = "A byte (0 .. 127)";
        Watch x = watch().refused(BAD, "type", -1).refused(BAD, "type", 128).refused(BAD, "type", 256 + 'b');
        x.refused(BAD, "type", Integer.MAX_VALUE).refused(BAD, "type", Integer.MIN_VALUE).same(0, "told", 3);
        x.due(1, "type", 0).due(2, "type", 127).same(-300, "read");
    }

    private static void itemsAreEndedBySemicolons() {
        sentence = "ITEMS, each ended by ;";
        itemsAre("b;", 1);
        itemsAre("b;b;", 2);
        itemsAre("b;e0 0 0;", 2);
        faultIs("bb;", 1);
        faultIs("b b;", 2);
        faultIs("b 4 b;", 4);
        faultIs("be0 0 0;", 1);
        faultIs("b;e0 0 0b;", 8);
        faultIs("b;e0 0 0e0 0 0;", 8);
        faultIs("b 4;e0 0 0:4b;", 12);
        faultIs("b 4;e0 0 0:4e0 0 0;", 12);
        faultIs(";", 0);
        faultIs("b;;", 2);
        faultIs("b; ;", 3);
        faultIs("b;e0 0 0;;", 9);
        faultIs("b,", 1);
    }

    private static void itemsAreAsManyAsThereIsRoomFor() {
        sentence = "ITEMS are read: how many";
        itemsAre(TEN_BLOCKS + "e0 0 0;".repeat(14), 24);
        itemsAre("b;" + SIXTEEN_EDGES, 17);
        Watch x = watch().type(TEN_BLOCKS + "e9 9 99;".repeat(12)).due(22, "read").same(10, "told", 4)
            .same(12, "told", 5);
        x.same(12, "about", 9, 1).same(9, "of", 11, 0).same(9, "of", 11, 1).same(99, "of", 11, 2);
    }

    private static void blocksHave0To6Numbers() {
        sentence = "b and 0 to 6 numbers";
        itemsAre("b;", 1);
        itemsAre("b 4 44 84 124 164 204;", 1);
        Watch x = watch().read("b 204 164 124 84 44 4;b;").same(6, "about", 0, 0).same(0, "about", 1, 0);
        x.same(204, "region", 0, 0).same(4, "region", 0, 5).same(NONE, "region", 0, 6).same(NONE, "region", 1, 0);
        faultIs("b 4 44 84 124 164 204 244;", 22);
        faultIs("b 4 44 84 124 164 204  4;", 23);
        faultIs("b 4 44 84 124 164 204 999;", 22);
        faultIs("b 4 44 84 124 164 204 1000;", 22);
        faultIs("b;b 4 44 84 124 164 204 244", 24);
        faultIs("b 4 44 84 124 164 204 #1;", 22);
    }

    private static void edgesHaveThreeNumbers() {
        sentence = "e and three numbers (an EDGE: from, to, WEIGHT)";
        faultIs("b;e;", 3);
        faultIs("b;e 0;", 5);
        faultIs("b;e 0 0;", 7);
        faultIs("b;e 0 0:", 7);
        itemsAre("b;e 0 0 0;", 2);
        faultIs("b;e 0 0 0 0;", 10);
        faultIs("b;e 0 0 0 9999;", 10);
        faultIs("b 4;e 0 0 0 4;", 12);
        faultIs("b 4;e 0 0 0 #4;", 12);
        faultIs("b;e #0 0 0;", 4);
        faultIs("b;e 0 0 -1;", 8);
        Watch x = watch().read("b;b;b;e 2 1 98;").same(2, "of", 0, 0).same(1, "of", 0, 1).same(98, "of", 0, 2);
    }

    private static void argumentsArePerhapsTold() {
        sentence = "then perhaps : and as many ARGUMENTS";
        Watch x = watch().read("b 4 42;e0 0 0;e0 0 0:44 #0;").same(4, "given", 0, 0).same(42, "given", 0, 1);
        x.same(44, "given", 1, 0).same(-1, "given", 1, 1).same(NONE, "given", 1, 2);
        x = watch().read("b 4 44 84 124 164 204;e0 0 0:#0 #99 4 284 164 204;").same(-1, "given", 0, 0)
            .same(-100, "given", 0, 1);
        x.same(4, "given", 0, 2).same(284, "given", 0, 3).same(164, "given", 0, 4).same(204, "given", 0, 5)
            .same(NONE, "given", 0, 6);
    }

    private static void numbersHave1To3Figures() {
        sentence = "Numbers have 1 to 3 figures";
        for (String four : new String[] {"4", "04", "004"}) {
            Watch x = watch().read("b " + four + ";e0 0 " + four + ":" + four + ";e0 0 0:#" + four + ";");
            x.same(4, "region", 0, 0).same(4, "of", 0, 2).same(4, "given", 0, 0).same(-5, "given", 1, 0);
        }
        watch().read("b;b;e001 000 099;").same(1, "of", 0, 0).same(0, "of", 0, 1).same(99, "of", 0, 2);
        for (String four : new String[] {"0004", "4000", "00000004", "99999999999999999999"}) {
            faultIs("b " + four + ";", 2);
            faultIs("b;e" + four + " 0 0;", 3);
            faultIs("b;e0 " + four + " 0;", 5);
            faultIs("b;e0 0 " + four + ";", 7);
            faultIs("b 4;e0 0 0:" + four + ";", 11);
            faultIs("b 4;e0 0 0:#" + four + ";", 11);
            faultIs("b 4 44;e0 0 0:4 #" + four + ";", 16);
            faultIs("b " + four, 2);
        }
        faultIs("b;e0000 0 0;", 3);
        faultIs("b;e0 0 0000;", 7);
        faultIs("b 4;e0 0 0:#0000;", 11);
        // of 2 to the 32nd more, and of as much as it takes to be below 0
        faultIs("b 4294967300;", 2);
        faultIs("b;e0 0 4294967296;", 7);
        faultIs("b 4;e0 0 0:#2147483648;", 11);
    }

    private static void blanksMayStandAnywhere() {
        sentence = "Blanks (32) may stand anywhere";
        String[] tight = {"b", "4", " ", "42", ";", "b", ";", "e", "0", " ", "0", " ", "9", ":", "#7", " ", "42", ";"};
        for (int count = 0; count <= 3; count++) {
            String blanks = " ".repeat(count);
            Watch x = watch().type(blanks + String.join(blanks, tight) + blanks).due(3, "read").same(2, "told", 4);
            x.same(2, "about", 0, 0).same(4, "region", 0, 0).same(42, "region", 0, 1).same(9, "of", 0, 2);
            x.same(-8, "given", 0, 0).same(42, "given", 0, 1);
        }
        // nor are they wanted where no two numbers meet
        watch().read("b4;e0 0 9:#7;").same(-8, "given", 0, 0).same(4, "region", 0, 0);
        watch().read("b4 42;e0 0 9:#7#8;").same(-8, "given", 0, 0).same(-9, "given", 0, 1);
        watch().read("b4 42;e0 0 9:4#8;").same(4, "given", 0, 0).same(-9, "given", 0, 1);
    }

    private static void blanksMayNotStandWithin() {
        sentence = "but within numbers, between # and its number";
        // two numbers, the second one no REGION, like, ACROSS
        faultIs("b 28 4;", 2);
        faultIs("b 4 4;", 4);
        faultIs("b 1 64;", 4);
        faultIs("b;e0 0 9 9;", 9);
        watch().read("b 1 11;").same(2, "about", 0, 0);
        watch().read("b 111;").same(1, "about", 0, 0).same(111, "region", 0, 0);
        faultIs("b 4;e0 0 0:# 7;", 11);
        faultIs("b 4;e0 0 0: #  7;", 12);
        faultIs("b 4;e0 0 0:#1 0;", 14);
        faultIs("b 44;e0 0 0:4 4;", 14);
    }

    private static void onlyBlanksAreBlank() {
        sentence = "Blanks (32)";
        for (int c : new int[] {0, 9, 10, 11, 12, 13, 31, 33, '_', 127}) {
            String sign = String.valueOf((char) c);
            faultIs(sign + "b;", 0);
            faultIs("b" + sign + ";", 1);
            faultIs("b;" + sign, 2);
            faultIs("b 4" + sign + "44;", 3);
            faultIs("b;e0" + sign + "0 0;", 4);
        }
    }

    // "the place of the first byte that can not stand there"

    private static void anyByteBehindItems() {
        sentence = "the first byte that can not stand there";
        for (int c = 0; c < 128; c++) {
            String sign = String.valueOf((char) c);
            boolean isFigure = c >= '0' && c <= '9';
            isAsTold(sign + "b;", c == ' ', 1, c == 'b' || c == 'e' ? 1 : 0);
            isAsTold("b;" + sign, c == ' ', 1, c == 'b' || c == 'e' ? 3 : 2);
            isAsTold("b" + sign + ";", " 124".contains(sign), 1, c == ';' ? 2 : 1);
            isAsTold("b 4" + sign + ";", " 124".contains(sign), 1, c == ';' ? 4 : isFigure ? 2 : 3);
            isAsTold("b;e" + sign + "0 0 0;", c == ' ' || c == '0', 2, 3);
            isAsTold("b;e0" + sign + "0 0;", c == ' ', 2, isFigure ? c == '0' ? 8 : 3 : 4);
            isAsTold("b;e0 0" + sign + "0;", c == ' ', 2, isFigure ? c == '0' ? 8 : 5 : 6);
            isAsTold("b;e0 0 0" + sign + ";", c == ' ' || isFigure, 2, c == ';' ? 9 : 8);
        }
    }

    private static void anyByteBehindArguments() {
        sentence = "the first byte that can not stand there";
        for (int c = 0; c < 128; c++) {
            String sign = String.valueOf((char) c);
            boolean isFigure = c >= '0' && c <= '9';
            isAsTold("b 4;e0 0 0" + sign + "4;", c == ':' || isFigure, 2, c == ' ' || c == ';' ? 11 : 10);
            isAsTold("b 4;e0 0 0:" + sign + ";", c == '4', 2, c == ' ' ? 12 : 11);
            isAsTold("b 4;e0 0 0:" + sign + "4;", " #048".contains(sign), 2, 11);
            isAsTold("b 4;e0 0 0:#" + sign + ";", isFigure, 2, 11);
            isAsTold("b 4;e0 0 0:#1" + sign + ";", c == ' ' || isFigure, 2, c == ';' ? 14 : 13);
            isAsTold("b 4;e0 0 0:4" + sign + ";", c == ' ' || c == '4', 2, c == ';' ? 13 : isFigure ? 11 : 12);
            isAsTold("b 4;e0 0 0:4;" + sign, c == ' ', 2, c == 'b' || c == 'e' ? 14 : 13);
        }
    }

    // "of a number that is not as told, for whatever reason, ...: its first byte"

    private static void parametersNotAsTold() {
        sentence = "a PARAMETER that is no REGION: its first byte";
        for (int number = 0; number <= 999; number++) {
            isAsTold("b  " + number + ";", isRegion(number), 1, 3);
        }
        faultIs("b 244 284 324;", 10);
        faultIs("b;b 244 0;", 8);
    }

    private static void parametersLikeOrAcross() {
        sentence = "a PARAMETER like or ACROSS another one: its first byte";
        faultIs("b 284 284;", 6);
        faultIs("b 284 302;", 6);
        faultIs("b 302 284;", 6);
        faultIs("b 311 302;", 6);
        faultIs("b 284 311;", 6);
        faultIs("b 1 2;", 4);
        faultIs("b 4 44 84 124 164 31;", 18);
        itemsAre("b 284 271;", 1);
        itemsAre("b 302 291;", 1);
        itemsAre("b 311 301;", 1);
        itemsAre("b 4 41;", 1);
        itemsAre("b 4;b 4;", 2);
        faultIs("b 4;b 4 4;", 8);
    }

    private static void blocksNotAsTold() {
        sentence = "from and to no BLOCK: its first byte";
        for (int blocks = 1; blocks <= 10; blocks++) {
            int end = 2 * blocks;
            int last = blocks - 1;
            itemsAre("b;".repeat(blocks) + "e" + last + " " + last + " 0;", blocks + 1);
            faultIs("b;".repeat(blocks) + "e" + blocks + " 0 0;", end + 1);
            faultIs("b;".repeat(blocks) + "e0 " + blocks + " 0;", end + 3);
        }
        faultIs("e0 0 0;", 1);
        faultIs("e 0 0 0;", 2);
        faultIs(TEN_BLOCKS + "e10 0 0;", 21);
        faultIs(TEN_BLOCKS + "e0 999 0;", 23);
        faultIs("b;e1 1 100;", 3);
    }

    private static void blocksAreToldAhead() {
        sentence = "from and to a BLOCK told behind: its first byte";
        faultIs("e0 0 0;b;", 1);
        faultIs("b;e0 1 0;b;", 5);
        faultIs("b;e1 0 0;b;", 3);
        itemsAre("b;b;e0 1 0;b;e2 0 0;", 5);
    }

    private static void weightsNotAsTold() {
        sentence = "a WEIGHT above 99: its first byte";
        for (int number = 0; number <= 999; number++) {
            isAsTold("b;e0 0  " + number + ";", number <= 99, 2, 8);
        }
        watch().read("b;e0 0 99;").same(99, "of", 0, 2);
    }

    private static void regionsNotAsWide() {
        sentence = "an ARGUMENT not as wide: its first byte";
        for (int number = 0; number <= 999; number++) {
            for (int w : new int[] {1, 2, 4}) {
                isAsTold("b " + w + ";e0 0 0: " + number + ";", isRegion(number, w), 2, 12);
            }
        }
        faultIs("b 4 42;e0 0 0:42 4;", 14);
        faultIs("b 4 42;e0 0 0:44 4;", 17);
        faultIs("b 4;b 2;e0 1 0:2;e1 0 0:2;", 24);
    }

    // "of # without a figure behind it, or with a number that is not as told (above 99, of four figures or more): the #"

    private static void constantsNotAsTold() {
        sentence = "# without a figure, or with a number that is not as told: the #";
        for (int number = 0; number <= 999; number++) {
            isAsTold("b 4;e0 0 0: #" + number + ";", number <= 99, 2, 12);
        }
        watch().read("b 4;e0 0 0:#99;").same(-100, "given", 0, 0);
        watch().read("b 4;e0 0 0:#099;").same(-100, "given", 0, 0);
        watch().read("b 4;e0 0 0:#000;").same(-1, "given", 0, 0);
        faultIs("b 4;e0 0 0:#", 11);
        faultIs("b 4;e0 0 0:# ", 11);
        faultIs("b 4;e0 0 0:#;", 11);
        faultIs("b 4;e0 0 0:# 1;", 11);
        faultIs("b 4;e0 0 0:##1;", 11);
        faultIs("b 4;e0 0 0:#-1;", 11);
        faultIs("b 4;e0 0 0:#b;", 11);
        faultIs("b 4;e0 0 0:#100", 11);
        faultIs("b 4;e0 0 0:#1000;", 11);
        faultIs("b 4;e0 0 0:#0099;", 11);
        faultIs("b 4 44;e0 0 0:#0#;", 16);
        faultIs("b 4 44;e0 0 0:#100#100;", 14);
    }

    // "an 11th b, a 17th e"

    private static void eleventhBlock() {
        sentence = "an 11th b";
        itemsAre(TEN_BLOCKS, 10);
        faultIs(TEN_BLOCKS + "b;", 20);
        faultIs(TEN_BLOCKS + "  b 4;", 22);
        faultIs(TEN_BLOCKS + "b", 20);
        faultIs(TEN_BLOCKS + "b 3;", 20);
        faultIs("b;e0 0 0;" + "b;".repeat(10), 27);
        itemsAre("b;e0 0 0;" + "b;".repeat(9), 11);
        itemsAre(TEN_BLOCKS + "e0 0 0;", 11);
    }

    private static void seventeenthEdge() {
        sentence = "a 17th e";
        itemsAre("b;" + SIXTEEN_EDGES, 17);
        faultIs("b;" + SIXTEEN_EDGES + "e", 114);
        faultIs("b;" + SIXTEEN_EDGES + "e0 0;", 114);
        faultIs("b;" + SIXTEEN_EDGES + "   e9", 117);
        itemsAre("b;" + SIXTEEN_EDGES + "b;", 18);
        itemsAre("b;" + SIXTEEN_EDGES + "b 311;", 18);
    }

    // "of a : behind which there are none to come"

    private static void noneToCome() {
        sentence = "a : behind which there are none to come";
        faultIs("b;e0 0 0:;", 8);
        faultIs("b;e0 0 0 :4;", 9);
        faultIs("b;e0 0 0:#1;", 8);
        faultIs("b;e0 0 0:", 8);
        faultIs("b 4;b;e0 1 0:4;", 12);
        itemsAre("b 4;b;e1 0 0:4;", 3);
        faultIs("b 4;e0 0 0::4;", 11);
        faultIs("b 4;e0 0 0:4:;", 12);
        faultIs("b 4;e0 0 0:4:4;", 12);
        faultIs("b:;", 1);
        faultIs("b 4:4;", 3);
        faultIs("b;e:0 0 0;", 3);
        faultIs("b;e0:0 0;", 4);
        faultIs(":", 0);
    }

    // "what stands where an ARGUMENT is missing, or one too many"

    private static void missingOrTooMany() {
        sentence = "what stands where an ARGUMENT is missing, or one too many";
        for (int has = 1; has <= 6; has++) {
            String head = "b" + String.join("", List.of(SIX).subList(0, has)) + ";e0 0 0:";
            for (int gets = 0; gets <= 7; gets++) {
                isAsTold(head + "#7".repeat(gets) + ";", has == gets, 2, head.length() + 2 * Math.min(has, gets));
                isAsTold(head + " 284".repeat(gets) + " ;", has == gets, 2, head.length() + 4 * Math.min(has, gets) + 1);
            }
            faultIs(head + "#7".repeat(has) + "1000;", has == 1 ? head.length() : head.length() + 2 * has - 2);
            faultIs(head + "#7".repeat(has) + " 1000;", head.length() + 2 * has + 1);
            faultIs(head + "#7".repeat(has) + "#;", head.length() + 2 * has);
        }
        faultIs("b 4 44;e0 0 0:4 e0 0 0;", 16);
        faultIs("b 4 44;e0 0 0:4 :44;", 16);
        faultIs("b 4;e0 0 0:b;", 11);
    }

    // "the TEXT's length, if it ends too early (an empty one, too)"

    private static void endsTooEarly() {
        sentence = "the TEXT's length, if it ends too early";
        String whole = " b 44 111 ; b 11; e 0 1 99 : #99 ; e 1 0 9 : 44 #0 ; ";
        for (int length = 0; length <= whole.length(); length++) {
            String text = whole.substring(0, length);
            int items = (int) text.chars().filter(c -> c == ';').count();
            int fault = text.endsWith("#") ? length - 1 : length;
            isAsTold(text, text.trim().endsWith(";"), items, fault);
        }
        faultIs("b;e0 0 0", 8);
        faultIs("b;e0 0 0 ", 9);
        faultIs("b 4;e0 0 0:", 11);
        faultIs("b 4;e0 0 0: ", 12);
        faultIs("b 4 44;e0 0 0:4", 15);
        faultIs("b 4 44;e0 0 0:4  ", 17);
        faultIs("b 4 44;e0 0 0:4 44", 18);
        faultIs("b 4 44 84 124 164 204", 21);
    }

    private static void emptyTexts() {
        sentence = "an empty one, too";
        watch().same(-300, "read").same(0, "told", 4);
        faultIs("", 0);
        faultIs(" ", 1);
        faultIs("     ", 5);
        watchOfSome().read("b;").due(2, "clear").same(-300, "read").same(1, "told", 4).same(0, "told", 5);
    }

    // "What is read takes the place of all BLOCKS and EDGES."

    private static void takesThePlaceOfAll() {
        sentence = "takes the place of all BLOCKS and EDGES";
        Watch x = watchOfSome().read("b 4;").same(1, "told", 4).same(0, "told", 5).same(4, "region", 0, 0);
        x.same(2, "told", 6).same(1, "told", 0).same(4, "told", 3).refused(BAD, "of", 0, 0).refused(BAD, "about", 1, 0);
        x.due(1, "block").same(0, "about", 1, 0).due(0, "edge", 0, 0, 0).same(4, "given", 0, 0);
        x.due(1, "read").same(1, "told", 4).same(0, "told", 5);
        x = watch().due(8, "draw", 5, 6, 8).read("b;").same(1, "told", 4).same(0, "told", 5).same(0, "about", 0, 0);
        x = watch().due(16, "draw", 5, 6, 16).read("b 4;b;e1 0 3;").same(2, "told", 4).same(1, "told", 5);
        x.same(1, "about", 0, 0).same(4, "given", 0, 0).same(NONE, "given", 0, 1).due(0, "draw", 5, 0, 0).due(3, "read");
        x.same(4, "given", 0, 0).same(3, "of", 0, 2).same(0, "about", 1, 0);
    }

    // "-300 less the FAULT: all stays"

    private static void allStays() {
        sentence = "all stays";
        Watch x = watchOfSome();
        String[] texts = {"", "b", "b 4;e0 0 9:#5;x", "b;b;b;b;b;e4 4 8;e3 3 7;e2 2 6", "b 4 44;e0 0 9:44 3;"};
        int[] faults = {0, 1, 14, 30, 17};
        for (int i = 0; i < texts.length; i++) {
            x.type(texts[i]).same(2, "told", 4).same(1, "told", 5).same(44, "region", 1, 0).same(-6, "given", 0, 0);
            x.same(-300 - faults[i], "read").same(-300 - faults[i], "read").same(7, "of", 0, 2).same(44, "region", 1, 0);
            x.same(-6, "given", 0, 0).same(NONE, "given", 0, 1).same(0, "about", 0, 0).same(texts[i].length(), "told", 3);
        }
        // what a fault left behind is not seen in what is read next
        x.read("b;b 42;e0 1 5;").same(42, "given", 0, 0).same(NONE, "given", 0, 1).same(0, "about", 0, 0)
            .same(1, "told", 0);
    }
}
