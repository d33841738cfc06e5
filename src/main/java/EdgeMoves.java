import java.util.Arrays;

/** Arguments handed over at the edges between blocks, all at once, made into steps one behind the other. */
public final class EdgeMoves {
    public static final int NONE = -201, BAD = -202, NO = -203, FULL = -204;

    private static final int BYTES = 32;
    private static final int MOST_BLOCKS = 10, MOST_PARAMETERS = 6, MOST_EDGES = 16, MOST_TEXT = 120;
    private static final int WEIGHTS = 100, CONSTANTS = 100, SEEDS = 1000000;
    private static final int DRAWN_BLOCKS = 8;
    private static final int FAULTS = -300;

    private static final int KINDS = 5;
    private static final int CHANGER = 1, THRICE = 2, NARROW = 3, PAIRED = 4;

    private static final int MOVE = 0, CHANGE = 1, SETTING = 2;

    private static final int AT_END = 0, AT_BEGINNING = 1, SPLIT = 2;

    private Graph graph;
    private Graph spareGraph;
    private final Text text;
    private final Reader reader;
    private final Handover handover;
    private final Plan plan;
    private final Plan otherPlan;
    private final Memory memory;
    private final Dice dice;
    private final int[] distances;
    private int kind;
    private int badCalls;
    private int noCalls;
    private int fullCalls;

    public EdgeMoves() {
        graph = new Graph();
        spareGraph = new Graph();
        text = new Text();
        reader = new Reader(text);
        handover = new Handover();
        plan = new Plan();
        otherPlan = new Plan();
        memory = new Memory();
        dice = new Dice();
        distances = new int[MOST_BLOCKS];
    }

    // ---- blocks and edges

    public int anew() {
        int gone = graph.edgeCount;
        graph.removeAll();
        return gone;
    }

    public int block() {
        if (graph.blockCount >= MOST_BLOCKS) {
            return refuse(FULL);
        }
        return graph.addBlock();
    }

    public int parameter(int b, int region) {
        if (!graph.hasBlock(b) || !Regions.isRegion(region)) {
            return refuse(BAD);
        }
        if (!graph.blocks[b].hasRoomAt(region)) {
            return refuse(NO);
        }
        if (graph.blocks[b].count >= MOST_PARAMETERS) {
            return refuse(FULL);
        }
        return graph.addParameter(b, region);
    }

    public int edge(int from, int to, int weight) {
        if (!graph.hasBlock(from) || !graph.hasBlock(to) || !isBelow(weight, WEIGHTS)) {
            return refuse(BAD);
        }
        if (graph.edgeCount >= MOST_EDGES) {
            return refuse(FULL);
        }
        return graph.addEdge(from, to, weight);
    }

    public int argument(int e, int i, int what) {
        if (!graph.hasEdge(e) || !isBelow(i, graph.goalOf(e).count)) {
            return refuse(BAD);
        }
        if (!Regions.isArgumentFor(what, graph.goalOf(e).parameters[i])) {
            return refuse(BAD);
        }
        int was = graph.edges[e].arguments[i];
        graph.edges[e].arguments[i] = what;
        return was;
    }

    public int weight(int e, int w) {
        if (!graph.hasEdge(e) || !isBelow(w, WEIGHTS)) {
            return refuse(BAD);
        }
        int was = graph.edges[e].load;
        graph.edges[e].load = w;
        return was;
    }

    public int machine(int kind) {
        if (!isBelow(kind, KINDS)) {
            return refuse(BAD);
        }
        int was = this.kind;
        this.kind = kind;
        return was;
    }

    public int of(int e, int what) {
        if (!graph.hasEdge(e) || !isBelow(what, 5)) {
            return refuse(BAD);
        }
        switch (what) {
            case 0:
                return graph.edges[e].from;
            case 1:
                return graph.edges[e].to;
            case 2:
                return graph.edges[e].load;
            case 3:
                return isClear(e) ? 1 : 0;
            default:
                return graph.whereStepsGo(e);
        }
    }

    public int about(int b, int what) {
        if (!graph.hasBlock(b) || !isBelow(what, 3)) {
            return refuse(BAD);
        }
        switch (what) {
            case 0:
                return graph.blocks[b].count;
            case 1:
                return graph.countFrom(b);
            default:
                return graph.countTo(b);
        }
    }

    public int region(int b, int i) {
        if (!graph.hasBlock(b) || i < 0) {
            return refuse(BAD);
        }
        return i < graph.blocks[b].count ? graph.blocks[b].parameters[i] : NONE;
    }

    public int given(int e, int i) {
        if (!graph.hasEdge(e) || i < 0) {
            return refuse(BAD);
        }
        return i < graph.goalOf(e).count ? graph.edges[e].arguments[i] : NONE;
    }

    // ---- texts

    public int type(int c) {
        if (!isBelow(c, 128)) {
            return refuse(BAD);
        }
        if (text.length >= MOST_TEXT) {
            return refuse(FULL);
        }
        text.append(c);
        return text.length;
    }

    public int clear() {
        int had = text.length;
        text.length = 0;
        return had;
    }

    public int read() {
        int answer = reader.readInto(spareGraph);
        if (answer > 0) {
            Graph before = graph;
            graph = spareGraph;
            spareGraph = before;
        }
        return answer;
    }

    // ---- steps

    public int steps(int e, int what) {
        int refusal = refusalFor(e, isBelow(what, 5));
        if (refusal != 0) {
            return refuse(refusal);
        }
        makePlan(plan, e);
        switch (what) {
            case 0:
                return plan.count;
            case 1:
                return plan.countSort(MOVE);
            case 2:
                return plan.countSort(CHANGE);
            case 3:
                return plan.countSort(SETTING);
            default:
                return plan.countToSpare();
        }
    }

    public int step(int e, int k, int what) {
        int refusal = refusalFor(e, k >= 0 && isBelow(what, 3));
        if (refusal != 0) {
            return refuse(refusal);
        }
        makePlan(plan, e);
        if (k >= plan.count) {
            return NONE;
        }
        switch (what) {
            case 0:
                return plan.sorts[k];
            case 1:
                return plan.goals[k];
            default:
                return plan.sources[k];
        }
    }

    public int cost(int e) {
        int refusal = refusalFor(e, true);
        if (refusal != 0) {
            return refuse(refusal);
        }
        makePlan(plan, e);
        return plan.price();
    }

    public int rings(int e, int what) {
        int refusal = refusalFor(e, isBelow(what, 3));
        if (refusal != 0) {
            return refuse(refusal);
        }
        handover.look(graph.goalOf(e), graph.edges[e]);
        switch (what) {
            case 0:
                return handover.countRings();
            case 1:
                return handover.longestRing();
            default:
                return handover.countOpenOutsideRings();
        }
    }

    public int cheapest(int e, int what) {
        int refusal = refusalFor(e, isBelow(what, 2));
        if (refusal != 0) {
            return refuse(refusal);
        }
        int best = 0;
        int least = priceBy(e, 0);
        for (int k = 1; k < KINDS; k++) {
            int price = priceBy(e, k);
            if (price < least) {
                best = k;
                least = price;
            }
        }
        return what == 0 ? best : least;
    }

    public int free(int e, int w) {
        if (!graph.hasEdge(e) || !Regions.isWidth(w)) {
            return refuse(BAD);
        }
        handover.look(graph.goalOf(e), graph.edges[e]);
        for (int b = 0; b + w <= BYTES; b += w) {
            int region = Regions.asTold(b, w);
            if (!handover.touches(region)) {
                return region;
            }
        }
        return NONE;
    }

    public int tail(int b) {
        if (!graph.hasBlock(b)) {
            return refuse(BAD);
        }
        if (!allClearTo(b)) {
            return refuse(NO);
        }
        int same = 0;
        boolean isFirst = true;
        for (int e = 0; e < graph.edgeCount; e++) {
            if (graph.edges[e].to == b && isFirst) {
                makePlan(plan, e);
                same = plan.count;
                isFirst = false;
            } else if (graph.edges[e].to == b) {
                makePlan(otherPlan, e);
                same = Math.min(same, plan.countSameAtEnd(otherPlan));
            }
        }
        return same;
    }

    public long run(int e, int seed, int way) {
        int refusal = refusalFor(e, isBelow(seed, SEEDS) && isBelow(way, 2));
        if (refusal != 0) {
            return refuse(refusal);
        }
        memory.fillBy(dice, seed);
        if (way == 0) {
            memory.handOver(graph.goalOf(e), graph.edges[e]);
        } else {
            makePlan(plan, e);
            memory.follow(plan);
        }
        return memory.hash();
    }

    // ---- the whole

    public int whole(int what) {
        if (!isBelow(what, 4)) {
            return refuse(BAD);
        }
        int sum = 0;
        for (int e = 0; e < graph.edgeCount; e++) {
            sum += shareOfWhole(e, what);
        }
        return sum;
    }

    public int dearest() {
        int best = NONE;
        int most = -1;
        for (int e = 0; e < graph.edgeCount; e++) {
            if (isClear(e) && weighedPrice(e) > most) {
                best = e;
                most = weighedPrice(e);
            }
        }
        return best;
    }

    public int reach(int a, int b) {
        if (!graph.hasBlock(a) || !graph.hasBlock(b)) {
            return refuse(BAD);
        }
        Arrays.fill(distances, NONE);
        distances[a] = 0;
        for (int far = 0; far < graph.blockCount; far++) {
            goOneFurther(far);
        }
        return distances[b];
    }

    public int draw(int seed, int n, int m) {
        if (!isBelow(seed, SEEDS) || !isBelow(n, MOST_PARAMETERS + 1) || !isBelow(m, MOST_EDGES + 1)) {
            return refuse(BAD);
        }
        graph.removeAll();
        dice.start(seed);
        for (int b = 0; b < DRAWN_BLOCKS; b++) {
            drawBlock(n);
        }
        for (int e = 0; e < m; e++) {
            drawEdge();
        }
        return m;
    }

    public int told(int what) {
        if (!isBelow(what, 7)) {
            return refuse(BAD);
        }
        return standing(what);
    }

    public long digest() {
        long h = 1913;
        for (int what = 0; what < 7; what++) {
            h = 31 * h + standing(what);
        }
        for (int b = 0; b < graph.blockCount; b++) {
            h = graph.blocks[b].mix(h);
        }
        for (int e = 0; e < graph.edgeCount; e++) {
            h = graph.edges[e].mix(h, graph.goalOf(e).count);
        }
        return h;
    }

    // ---- what the calls share

    private static boolean isBelow(int number, int bound) {
        return number >= 0 && number < bound;
    }

    private int refuse(int answer) {
        if (answer == BAD) {
            badCalls++;
        } else if (answer == NO) {
            noCalls++;
        } else {
            fullCalls++;
        }
        return answer;
    }

    /** 0, or why a call that asks for the steps of an edge is refused. */
    private int refusalFor(int e, boolean restIsAsTold) {
        if (!graph.hasEdge(e) || !restIsAsTold) {
            return BAD;
        }
        return isClear(e) ? 0 : NO;
    }

    private int standing(int what) {
        switch (what) {
            case 0:
                return badCalls;
            case 1:
                return noCalls;
            case 2:
                return fullCalls;
            case 3:
                return text.length;
            case 4:
                return graph.blockCount;
            case 5:
                return graph.edgeCount;
            default:
                return kind;
        }
    }

    private boolean isClear(int e) {
        handover.look(graph.goalOf(e), graph.edges[e]);
        return handover.isClear();
    }

    private boolean allClearTo(int b) {
        for (int e = 0; e < graph.edgeCount; e++) {
            if (graph.edges[e].to == b && !isClear(e)) {
                return false;
            }
        }
        return true;
    }

    private void makePlan(Plan into, int e) {
        handover.look(graph.goalOf(e), graph.edges[e]);
        into.make(handover, kind);
    }

    private int priceBy(int e, int someKind) {
        handover.look(graph.goalOf(e), graph.edges[e]);
        plan.make(handover, someKind);
        return plan.price();
    }

    private int weighedPrice(int e) {
        return graph.edges[e].load * priceBy(e, kind);
    }

    private int shareOfWhole(int e, int what) {
        if (!isClear(e)) {
            return what == 2 ? 1 : 0;
        }
        makePlan(plan, e);
        switch (what) {
            case 0:
                return graph.edges[e].load * plan.price();
            case 1:
                return graph.whereStepsGo(e) == SPLIT && plan.count > 0 ? 1 : 0;
            case 2:
                return 0;
            default:
                return plan.count;
        }
    }

    private void goOneFurther(int far) {
        for (int e = 0; e < graph.edgeCount; e++) {
            Edge edge = graph.edges[e];
            if (distances[edge.from] == far && distances[edge.to] == NONE) {
                distances[edge.to] = far + 1;
            }
        }
    }

    private void drawBlock(int n) {
        int b = graph.addBlock();
        for (int i = 0; i < n; i++) {
            int width = 4 >> dice.nextBelow(3);
            graph.addParameter(b, Regions.asTold(4 * i, width));
        }
    }

    private void drawEdge() {
        int from = dice.nextBelow(DRAWN_BLOCKS);
        int to = dice.nextBelow(DRAWN_BLOCKS);
        int e = graph.addEdge(from, to, dice.nextBelow(WEIGHTS));
        if (!graph.hasEdge(e)) {
            return;
        }
        Block goal = graph.goalOf(e);
        for (int i = 0; i < goal.count; i++) {
            int k = dice.nextBelow(8);
            graph.edges[e].arguments[i] = k == 7
                ? Regions.toldConstant((int) (dice.x / 1024 % CONSTANTS))
                : Regions.asTold(4 * k, Regions.width(goal.parameters[i]));
        }
    }

    /** Regions are told by 10 b and w; the spare place is told as if it lay behind the last byte. */
    private static final class Regions {
        static boolean isWidth(int w) {
            return w == 1 || w == 2 || w == 4;
        }

        static int asTold(int b, int w) {
            return 10 * b + w;
        }

        static int firstByte(int region) {
            return region / 10;
        }

        static int width(int region) {
            return region % 10;
        }

        static boolean isRegion(int number) {
            if (number < 0 || !isWidth(width(number))) {
                return false;
            }
            int b = firstByte(number);
            int w = width(number);
            return b + w <= BYTES && b % w == 0;
        }

        static boolean shareByte(int one, int other) {
            return firstByte(one) < firstByte(other) + width(other)
                && firstByte(other) < firstByte(one) + width(one);
        }

        static boolean areAcross(int one, int other) {
            return one != other && shareByte(one, other);
        }

        static int toldConstant(int c) {
            return -1 - c;
        }

        static boolean isConstant(int what) {
            return isBelow(-1 - what, CONSTANTS);
        }

        static boolean isAsWide(int what, int parameter) {
            return isRegion(what) && width(what) == width(parameter);
        }

        static boolean isArgumentFor(int what, int parameter) {
            return isConstant(what) || isAsWide(what, parameter);
        }
    }

    private static final class Block {
        final int[] parameters;
        int count;

        Block() {
            parameters = new int[MOST_PARAMETERS];
        }

        boolean hasRoomAt(int region) {
            for (int i = 0; i < count; i++) {
                if (Regions.shareByte(parameters[i], region)) {
                    return false;
                }
            }
            return true;
        }

        long mix(long before) {
            long h = 31 * before + count;
            for (int i = 0; i < count; i++) {
                h = 31 * h + parameters[i];
            }
            return h;
        }
    }

    private static final class Edge {
        final int[] arguments;
        int from;
        int to;
        int load;

        Edge() {
            arguments = new int[MOST_PARAMETERS];
        }

        long mix(long before, int argumentCount) {
            long h = 31 * before + from;
            h = 31 * h + to;
            h = 31 * h + load;
            for (int i = 0; i < argumentCount; i++) {
                h = 31 * h + arguments[i];
            }
            return h;
        }
    }

    private static final class Graph {
        final Block[] blocks;
        final Edge[] edges;
        int blockCount;
        int edgeCount;

        Graph() {
            blocks = new Block[MOST_BLOCKS];
            for (int b = 0; b < MOST_BLOCKS; b++) {
                blocks[b] = new Block();
            }
            edges = new Edge[MOST_EDGES];
            for (int e = 0; e < MOST_EDGES; e++) {
                edges[e] = new Edge();
            }
        }

        void removeAll() {
            blockCount = 0;
            edgeCount = 0;
        }

        boolean hasBlock(int b) {
            return isBelow(b, blockCount);
        }

        boolean hasEdge(int e) {
            return isBelow(e, edgeCount);
        }

        Block goalOf(int e) {
            return blocks[edges[e].to];
        }

        int addBlock() {
            if (blockCount >= MOST_BLOCKS) {
                return NONE;
            }
            blocks[blockCount].count = 0;
            blockCount++;
            return blockCount - 1;
        }

        int addParameter(int b, int region) {
            if (!hasBlock(b) || blocks[b].count >= MOST_PARAMETERS) {
                return NONE;
            }
            int i = blocks[b].count;
            blocks[b].parameters[i] = region;
            blocks[b].count++;
            for (int e = 0; e < edgeCount; e++) {
                if (edges[e].to == b) {
                    edges[e].arguments[i] = region;
                }
            }
            return i;
        }

        int addEdge(int from, int to, int load) {
            if (!hasBlock(from) || !hasBlock(to) || edgeCount >= MOST_EDGES) {
                return NONE;
            }
            Edge edge = edges[edgeCount];
            edge.from = from;
            edge.to = to;
            edge.load = load;
            System.arraycopy(blocks[to].parameters, 0, edge.arguments, 0, blocks[to].count);
            edgeCount++;
            return edgeCount - 1;
        }

        int countFrom(int b) {
            int count = 0;
            for (int e = 0; e < edgeCount; e++) {
                count += edges[e].from == b ? 1 : 0;
            }
            return count;
        }

        int countTo(int b) {
            int count = 0;
            for (int e = 0; e < edgeCount; e++) {
                count += edges[e].to == b ? 1 : 0;
            }
            return count;
        }

        int whereStepsGo(int e) {
            if (countFrom(edges[e].from) == 1) {
                return AT_END;
            }
            return countTo(edges[e].to) == 1 ? AT_BEGINNING : SPLIT;
        }
    }

    private static final class Text {
        final int[] bytes;
        int length;

        Text() {
            bytes = new int[MOST_TEXT];
        }

        void append(int c) {
            if (length < MOST_TEXT) {
                bytes[length] = c;
                length++;
            }
        }

        /** The byte at a place; -1 behind the last one. */
        int at(int place) {
            return place >= 0 && place < length ? bytes[place] : -1;
        }
    }

    /** Reads the items of a text into a graph; a function that answers false, or below 0, has noted the fault. */
    private static final class Reader {
        /** Neither a region nor a constant, and above all bounds. */
        private static final int NOT_AS_TOLD = 1000;

        private final Text text;
        private Graph into;
        private int place;
        private int fault;

        Reader(Text text) {
            this.text = text;
        }

        int readInto(Graph graph) {
            into = graph;
            into.removeAll();
            place = 0;
            for (int items = 0; items <= MOST_TEXT; items++) {
                int c = nextByte();
                if (c < 0 && items > 0) {
                    return items;
                }
                boolean isAsTold = c == 'b' ? readBlock() : c == 'e' ? readEdge() : failAt(place);
                if (!isAsTold) {
                    break;
                }
            }
            return FAULTS - fault;
        }

        private boolean failAt(int where) {
            fault = where;
            return false;
        }

        /** The first byte from here on that is no blank. */
        private int nextByte() {
            while (place < text.length && text.at(place) == ' ') {
                place++;
            }
            return text.at(place);
        }

        private static boolean isFigure(int c) {
            return c >= '0' && c <= '9';
        }

        /** The number of three figures at most that begins here. */
        private int readNumber() {
            int number = 0;
            int figures = 0;
            while (place < text.length && isFigure(text.at(place))) {
                figures++;
                number = figures > 3 ? NOT_AS_TOLD : 10 * number + text.at(place) - '0';
                place++;
            }
            return number;
        }

        private int readNumberBelow(int bound) {
            if (!isFigure(nextByte())) {
                failAt(place);
                return -1;
            }
            int start = place;
            int number = readNumber();
            if (!isBelow(number, bound)) {
                failAt(start);
                return -1;
            }
            return number;
        }

        private boolean readBlock() {
            int b = into.addBlock();
            if (!into.hasBlock(b)) {
                return failAt(place);
            }
            place++;
            for (int i = 0; i < MOST_PARAMETERS && isFigure(nextByte()); i++) {
                int start = place;
                int region = readNumber();
                if (!Regions.isRegion(region) || !into.blocks[b].hasRoomAt(region)) {
                    return failAt(start);
                }
                into.addParameter(b, region);
            }
            return readEnd();
        }

        private boolean readEdge() {
            if (into.edgeCount >= MOST_EDGES) {
                return failAt(place);
            }
            place++;
            int from = readNumberBelow(into.blockCount);
            int to = from < 0 ? -1 : readNumberBelow(into.blockCount);
            int load = to < 0 ? -1 : readNumberBelow(WEIGHTS);
            if (load < 0) {
                return false;
            }
            int e = into.addEdge(from, to, load);
            if (into.hasEdge(e) && into.goalOf(e).count > 0 && nextByte() == ':') {
                place++;
                if (!readArguments(into.goalOf(e), into.edges[e])) {
                    return false;
                }
            }
            return readEnd();
        }

        private boolean readEnd() {
            if (nextByte() != ';') {
                return failAt(place);
            }
            place++;
            return true;
        }

        private boolean readArguments(Block goal, Edge edge) {
            for (int i = 0; i < goal.count; i++) {
                boolean isConstant = nextByte() == '#';
                int start = place;
                int argument = isConstant ? readConstant() : readRegion();
                if (!Regions.isConstant(argument) && !Regions.isAsWide(argument, goal.parameters[i])) {
                    return failAt(start);
                }
                edge.arguments[i] = argument;
            }
            return true;
        }

        private int readRegion() {
            return isFigure(text.at(place)) ? readNumber() : NOT_AS_TOLD;
        }

        /** The constant that the sign here begins, told as arguments are. */
        private int readConstant() {
            place++;
            return isFigure(text.at(place)) ? Regions.toldConstant(readNumber()) : NOT_AS_TOLD;
        }
    }

    /** What an edge hands over: which parameters want what, before any step. */
    private static final class Handover {
        private static final int MOST_REGIONS = 2 * MOST_PARAMETERS;

        int[] parameters;
        int[] arguments;
        int count;

        Handover() {
            parameters = new int[MOST_PARAMETERS];
            arguments = parameters;
        }

        void look(Block goal, Edge edge) {
            parameters = goal.parameters;
            arguments = edge.arguments;
            count = goal.count;
        }

        boolean isSet(int i) {
            return arguments[i] < 0;
        }

        boolean isOpen(int i) {
            return arguments[i] >= 0 && arguments[i] != parameters[i];
        }

        /** Of the regions that may not be across: a parameter's (below 6), or its argument's; -1: none. */
        private int involved(int k) {
            int i = k % MOST_PARAMETERS;
            if (i >= count || arguments[i] == parameters[i]) {
                return -1;
            }
            return k < MOST_PARAMETERS ? parameters[i] : arguments[i];
        }

        boolean isClear() {
            for (int k = 0; k < MOST_REGIONS; k++) {
                for (int l = 0; l < k; l++) {
                    int one = involved(k);
                    int other = involved(l);
                    if (one >= 0 && other >= 0 && Regions.areAcross(one, other)) {
                        return false;
                    }
                }
            }
            return true;
        }

        boolean touches(int region) {
            for (int i = 0; i < count; i++) {
                if (Regions.shareByte(parameters[i], region)) {
                    return true;
                }
                if (arguments[i] >= 0 && Regions.shareByte(arguments[i], region)) {
                    return true;
                }
            }
            return false;
        }

        /** The open parameter of a region; -1: none. */
        private int openAt(int region) {
            for (int i = 0; i < count; i++) {
                if (parameters[i] == region && isOpen(i)) {
                    return i;
                }
            }
            return -1;
        }

        private int countWanting(int region) {
            int wanting = 0;
            for (int i = 0; i < count; i++) {
                wanting += isOpen(i) && arguments[i] == region ? 1 : 0;
            }
            return wanting;
        }

        /** How many are in the ring of an open parameter, of which nothing is wanted from outside; 0: it is in none. */
        private int ringSize(int first) {
            int i = first;
            for (int n = 1; n <= count; n++) {
                if (countWanting(parameters[i]) != 1) {
                    return 0;
                }
                i = openAt(arguments[i]);
                if (i < 0) {
                    return 0;
                }
                if (i == first) {
                    return n;
                }
            }
            return 0;
        }

        private int countInRingsOf(int size) {
            int members = 0;
            for (int i = 0; i < count; i++) {
                members += isOpen(i) && ringSize(i) == size ? 1 : 0;
            }
            return members;
        }

        int countRings() {
            int sum = 0;
            for (int size = 2; size <= MOST_PARAMETERS; size++) {
                sum += countInRingsOf(size) / size;
            }
            return sum;
        }

        int longestRing() {
            int longest = 0;
            for (int i = 0; i < count; i++) {
                longest = isOpen(i) ? Math.max(longest, ringSize(i)) : longest;
            }
            return longest;
        }

        int countOpenOutsideRings() {
            return countInRingsOf(0);
        }
    }

    /** What moves and changes of so many bytes cost on machines of a kind. */
    private static final class Prices {
        static int move(int kind, int w) {
            switch (kind) {
                case NARROW:
                    return w;
                case PAIRED:
                    return (w + 1) / 2;
                default:
                    return 1;
            }
        }

        /** 0: such machines can not change about. */
        static int change(int kind, int w) {
            switch (kind) {
                case CHANGER:
                    return 1;
                case THRICE:
                    return 3;
                case PAIRED:
                    return (w + 1) / 2 + 1;
                default:
                    return 0;
            }
        }

        static boolean isRingChanged(int kind, int w, int size) {
            int change = change(kind, w);
            return change > 0 && (size - 1) * change < (size + 1) * move(kind, w);
        }
    }

    /** The steps of a clear edge on machines of a kind. */
    private static final class Plan {
        /** Six parameters in three rings, each by the spare place, take nine. */
        private static final int MOST_STEPS = 9;

        final int[] sorts;
        final int[] goals;
        final int[] sources;
        int count;
        private int kind;
        private int[] parameters;
        private int parameterCount;
        private final int[] places;
        private final boolean[] opens;
        private int openCount;

        Plan() {
            sorts = new int[MOST_STEPS];
            goals = new int[MOST_STEPS];
            sources = new int[MOST_STEPS];
            parameters = new int[MOST_PARAMETERS];
            places = new int[MOST_PARAMETERS];
            opens = new boolean[MOST_PARAMETERS];
        }

        void make(Handover handover, int someKind) {
            count = 0;
            kind = someKind;
            openAll(handover);
            for (int round = 0; round < MOST_STEPS && openCount > 0; round++) {
                int ready = leastOpen(true);
                if (ready >= 0) {
                    moveTo(ready);
                } else {
                    breakRing(leastOpen(false));
                }
            }
            addSettings(handover);
        }

        private void openAll(Handover handover) {
            parameters = handover.parameters;
            parameterCount = handover.count;
            openCount = 0;
            for (int i = 0; i < parameterCount; i++) {
                places[i] = handover.arguments[i];
                opens[i] = handover.isOpen(i);
                openCount += opens[i] ? 1 : 0;
            }
        }

        private void add(int sort, int goal, int source) {
            if (count < MOST_STEPS) {
                sorts[count] = sort;
                goals[count] = goal;
                sources[count] = source;
                count++;
            }
        }

        private boolean isWanted(int region) {
            for (int i = 0; i < parameterCount; i++) {
                if (opens[i] && places[i] == region) {
                    return true;
                }
            }
            return false;
        }

        /** The open one of the least byte, of all or of those in which nothing lies that is wanted; -1: none. */
        private int leastOpen(boolean onlyUnwanted) {
            int least = -1;
            for (int i = 0; i < parameterCount; i++) {
                boolean counts = opens[i] && !(onlyUnwanted && isWanted(parameters[i]));
                if (counts && (least < 0 || parameters[i] < parameters[least])) {
                    least = i;
                }
            }
            return least;
        }

        private void close(int i) {
            opens[i] = false;
            openCount--;
        }

        /** What lay in one place lies in another from now on, for all that want it. */
        private void moveWhatLies(int from, int to) {
            for (int i = 0; i < parameterCount; i++) {
                places[i] = places[i] == from ? to : places[i];
            }
        }

        private void moveTo(int i) {
            int from = places[i];
            add(MOVE, parameters[i], from);
            close(i);
            moveWhatLies(from, parameters[i]);
        }

        private int openAt(int region) {
            for (int i = 0; i < parameterCount; i++) {
                if (opens[i] && parameters[i] == region) {
                    return i;
                }
            }
            return -1;
        }

        private int ringSize(int first) {
            int i = openAt(places[first]);
            int size = 1;
            while (size < MOST_PARAMETERS && i >= 0 && i != first) {
                i = openAt(places[i]);
                size++;
            }
            return size;
        }

        private void breakRing(int first) {
            if (first < 0) {
                return;
            }
            int size = ringSize(first);
            int w = Regions.width(parameters[first]);
            if (Prices.isRingChanged(kind, w, size)) {
                changeRing(first, size);
            } else {
                int spare = Regions.asTold(BYTES, w);
                add(MOVE, spare, parameters[first]);
                moveWhatLies(parameters[first], spare);
            }
        }

        private void changeRing(int first, int size) {
            int i = first;
            for (int n = 1; n < size && i >= 0; n++) {
                add(CHANGE, parameters[i], places[i]);
                int next = openAt(places[i]);
                close(i);
                i = next;
            }
            if (i >= 0) {
                close(i);
            }
        }

        private void addSettings(Handover handover) {
            int behind = -1;
            for (int round = 0; round < parameterCount; round++) {
                int least = leastSetBehind(handover, behind);
                if (least >= 0) {
                    behind = parameters[least];
                    add(SETTING, behind, handover.arguments[least]);
                }
            }
        }

        private int leastSetBehind(Handover handover, int region) {
            int least = -1;
            for (int i = 0; i < parameterCount; i++) {
                boolean counts = handover.isSet(i) && parameters[i] > region;
                if (counts && (least < 0 || parameters[i] < parameters[least])) {
                    least = i;
                }
            }
            return least;
        }

        int countSort(int sort) {
            int found = 0;
            for (int k = 0; k < count; k++) {
                found += sorts[k] == sort ? 1 : 0;
            }
            return found;
        }

        int countToSpare() {
            int found = 0;
            for (int k = 0; k < count; k++) {
                found += Regions.firstByte(goals[k]) == BYTES ? 1 : 0;
            }
            return found;
        }

        int price() {
            int sum = 0;
            for (int k = 0; k < count; k++) {
                int w = Regions.width(goals[k]);
                sum += sorts[k] == CHANGE ? Prices.change(kind, w) : Prices.move(kind, w);
            }
            return sum;
        }

        int countSameAtEnd(Plan other) {
            int same = 0;
            while (same < count && same < other.count
                    && isSame(count - 1 - same, other, other.count - 1 - same)) {
                same++;
            }
            return same;
        }

        private boolean isSame(int k, Plan other, int l) {
            return sorts[k] == other.sorts[l] && goals[k] == other.goals[l] && sources[k] == other.sources[l];
        }
    }

    /** The bytes, and behind them the spare place. */
    private static final class Memory {
        private static final int ALL = BYTES + 4;

        private final int[] bytes;
        private final int[] ahead;

        Memory() {
            bytes = new int[ALL];
            ahead = new int[ALL];
        }

        void fillBy(Dice dice, int seed) {
            dice.start(seed);
            for (int b = 0; b < BYTES; b++) {
                bytes[b] = dice.nextBelow(256);
            }
        }

        private void copy(int[] source, int from, int to) {
            int w = Regions.width(to);
            for (int i = 0; i < w; i++) {
                bytes[Regions.firstByte(to) + i] = source[Regions.firstByte(from) + i];
            }
        }

        private void put(int constant, int to) {
            int rest = -1 - constant;
            for (int i = 0; i < Regions.width(to); i++) {
                bytes[Regions.firstByte(to) + i] = rest % 256;
                rest /= 256;
            }
        }

        private void exchange(int one, int other) {
            System.arraycopy(bytes, 0, ahead, 0, ALL);
            copy(ahead, other, one);
            copy(ahead, one, other);
        }

        void handOver(Block goal, Edge edge) {
            System.arraycopy(bytes, 0, ahead, 0, ALL);
            for (int i = 0; i < goal.count; i++) {
                if (edge.arguments[i] < 0) {
                    put(edge.arguments[i], goal.parameters[i]);
                } else {
                    copy(ahead, edge.arguments[i], goal.parameters[i]);
                }
            }
        }

        void follow(Plan plan) {
            for (int k = 0; k < plan.count; k++) {
                if (plan.sorts[k] == SETTING) {
                    put(plan.sources[k], plan.goals[k]);
                } else if (plan.sorts[k] == CHANGE) {
                    exchange(plan.goals[k], plan.sources[k]);
                } else {
                    copy(bytes, plan.sources[k], plan.goals[k]);
                }
            }
        }

        long hash() {
            long h = 1;
            for (int b = 0; b < BYTES; b++) {
                h = 31 * h + bytes[b];
            }
            return h;
        }
    }

    private static final class Dice {
        long x;

        void start(int seed) {
            x = seed;
        }

        /** The next X, by 65536, by a bound left over. */
        int nextBelow(int bound) {
            x = (x * 1103515245L + 12345L) % 2147483648L;
            return bound > 0 ? (int) (x / 65536L % bound) : 0;
        }
    }
}
