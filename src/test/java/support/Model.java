import java.math.BigInteger;
import java.util.ArrayDeque;
import java.util.ArrayList;
import java.util.Deque;
import java.util.HashMap;
import java.util.HashSet;
import java.util.List;
import java.util.Map;
import java.util.Set;
import java.util.TreeMap;
import java.util.regex.Matcher;
import java.util.regex.Pattern;

/** A second telling of the document, by sets and maps, that the class is held against. */
final class Model {
    private static final int NONE = -201, BAD = -202, NO = -203, FULL = -204;

    private record Region(int first, int width) {
        static Region told(int number) {
            for (int w : new int[] {1, 2, 4}) {
                for (int b = 0; b + w <= 32; b += w) {
                    if (number == 10 * b + w) {
                        return new Region(b, w);
                    }
                }
            }
            return null;
        }

        int number() {
            return 10 * first + width;
        }

        Set<Integer> bytes() {
            Set<Integer> bytes = new HashSet<>();
            for (int i = 0; i < width; i++) {
                bytes.add(first + i);
            }
            return bytes;
        }

        boolean meets(Region other) {
            Set<Integer> both = bytes();
            both.retainAll(other.bytes());
            return !both.isEmpty();
        }

        boolean isAcross(Region other) {
            return !equals(other) && meets(other);
        }
    }

    /** A constant has no region. */
    private record Argument(Region region, int constant) {
        static Argument told(int number, Region parameter) {
            if (number < 0) {
                return number >= -100 ? new Argument(null, -1 - number) : null;
            }
            Region region = Region.told(number);
            return region != null && region.width() == parameter.width() ? new Argument(region, 0) : null;
        }

        int number() {
            return region == null ? -1 - constant : region.number();
        }
    }

    private static final class Edge {
        int from;
        int to;
        int weight;
        List<Argument> arguments = new ArrayList<>();
    }

    private record Step(String sort, Region to, Region from, int constant) {
        int sortNumber() {
            return List.of("MOVE", "CHANGE", "SETTING").indexOf(sort);
        }

        int toNumber() {
            return to.number();
        }

        int fromNumber() {
            return sort.equals("SETTING") ? -1 - constant : from.number();
        }
    }

    private static final class Fault extends Exception {
        private static final long serialVersionUID = 1;
        final int place;

        Fault(int place) {
            this.place = place;
        }
    }

    private record Token(String signs, int place) {
        boolean isNumber() {
            return Character.isDigit(signs.charAt(0));
        }

        boolean isConstant() {
            return signs.charAt(0) == '#';
        }
    }

    private List<List<Region>> blocks = new ArrayList<>();
    private List<Edge> edges = new ArrayList<>();
    private String text = "";
    private int kind;
    private final int[] refused = new int[3];

    private int refuse(int answer) {
        refused[BAD - answer]++;
        return answer;
    }

    private boolean isBlock(int b) {
        return b >= 0 && b < blocks.size();
    }

    private boolean isEdge(int e) {
        return e >= 0 && e < edges.size();
    }

    private List<Region> goal(Edge edge) {
        return blocks.get(edge.to);
    }

    public int anew() {
        int were = edges.size();
        blocks = new ArrayList<>();
        edges = new ArrayList<>();
        return were;
    }

    public int block() {
        if (blocks.size() == 10) {
            return refuse(FULL);
        }
        blocks.add(new ArrayList<>());
        return blocks.size() - 1;
    }

    public int parameter(int b, int number) {
        Region region = Region.told(number);
        if (!isBlock(b) || region == null) {
            return refuse(BAD);
        }
        List<Region> parameters = blocks.get(b);
        if (parameters.stream().anyMatch(region::meets)) {
            return refuse(NO);
        }
        if (parameters.size() == 6) {
            return refuse(FULL);
        }
        parameters.add(region);
        edges.stream().filter(e -> e.to == b).forEach(e -> e.arguments.add(new Argument(region, 0)));
        return parameters.size() - 1;
    }

    public int edge(int from, int to, int weight) {
        if (!isBlock(from) || !isBlock(to) || weight < 0 || weight > 99) {
            return refuse(BAD);
        }
        if (edges.size() == 16) {
            return refuse(FULL);
        }
        addEdge(from, to, weight);
        return edges.size() - 1;
    }

    private Edge addEdge(int from, int to, int weight) {
        Edge edge = new Edge();
        edge.from = from;
        edge.to = to;
        edge.weight = weight;
        blocks.get(to).forEach(p -> edge.arguments.add(new Argument(p, 0)));
        edges.add(edge);
        return edge;
    }

    public int argument(int e, int i, int what) {
        if (!isEdge(e) || i < 0 || i >= edges.get(e).arguments.size()) {
            return refuse(BAD);
        }
        Argument argument = Argument.told(what, goal(edges.get(e)).get(i));
        if (argument == null) {
            return refuse(BAD);
        }
        return edges.get(e).arguments.set(i, argument).number();
    }

    public int weight(int e, int w) {
        if (!isEdge(e) || w < 0 || w > 99) {
            return refuse(BAD);
        }
        int was = edges.get(e).weight;
        edges.get(e).weight = w;
        return was;
    }

    public int machine(int newKind) {
        if (newKind < 0 || newKind > 4) {
            return refuse(BAD);
        }
        int was = kind;
        kind = newKind;
        return was;
    }

    public int of(int e, int what) {
        if (!isEdge(e) || what < 0 || what > 4) {
            return refuse(BAD);
        }
        Edge edge = edges.get(e);
        return List.of(edge.from, edge.to, edge.weight, isClear(edge) ? 1 : 0, where(edge)).get(what);
    }

    private int where(Edge edge) {
        if (edges.stream().noneMatch(other -> other != edge && other.from == edge.from)) {
            return 0;
        }
        return edges.stream().noneMatch(other -> other != edge && other.to == edge.to) ? 1 : 2;
    }

    public int about(int b, int what) {
        if (!isBlock(b) || what < 0 || what > 2) {
            return refuse(BAD);
        }
        return List.of(blocks.get(b).size(), (int) edges.stream().filter(e -> e.from == b).count(),
            (int) edges.stream().filter(e -> e.to == b).count()).get(what);
    }

    public int region(int b, int i) {
        if (!isBlock(b) || i < 0) {
            return refuse(BAD);
        }
        return i < blocks.get(b).size() ? blocks.get(b).get(i).number() : NONE;
    }

    public int given(int e, int i) {
        if (!isEdge(e) || i < 0) {
            return refuse(BAD);
        }
        return i < edges.get(e).arguments.size() ? edges.get(e).arguments.get(i).number() : NONE;
    }

    public int type(int c) {
        if (c < 0 || c > 127) {
            return refuse(BAD);
        }
        if (text.length() == 120) {
            return refuse(FULL);
        }
        text += (char) c;
        return text.length();
    }

    public int clear() {
        int had = text.length();
        text = "";
        return had;
    }

    public int read() {
        List<List<Region>> oldBlocks = blocks;
        List<Edge> oldEdges = edges;
        blocks = new ArrayList<>();
        edges = new ArrayList<>();
        try {
            return readItems();
        } catch (Fault fault) {
            blocks = oldBlocks;
            edges = oldEdges;
            return -300 - fault.place;
        }
    }

    private int readItems() throws Fault {
        Deque<Token> tokens = new ArrayDeque<>();
        Matcher matcher = Pattern.compile("[0-9]+|#[0-9]*|[^ ]", Pattern.DOTALL).matcher(text);
        while (matcher.find()) {
            tokens.add(new Token(matcher.group(), matcher.start()));
        }
        int items = 0;
        do {
            Token head = take(tokens);
            if (head.signs.equals("b") && blocks.size() < 10) {
                readBlock(tokens);
            } else if (head.signs.equals("e") && edges.size() < 16) {
                readEdge(tokens);
            } else {
                throw new Fault(head.place);
            }
            items++;
        } while (!tokens.isEmpty());
        return items;
    }

    private Token take(Deque<Token> tokens) throws Fault {
        if (tokens.isEmpty()) {
            throw new Fault(text.length());
        }
        return tokens.remove();
    }

    private void readBlock(Deque<Token> tokens) throws Fault {
        List<Region> parameters = new ArrayList<>();
        blocks.add(parameters);
        for (Token token = take(tokens); !token.signs.equals(";"); token = take(tokens)) {
            Region region = token.isNumber() ? Region.told(number(token, token.signs)) : null;
            if (region == null || parameters.size() == 6 || parameters.stream().anyMatch(region::meets)) {
                throw new Fault(token.place);
            }
            parameters.add(region);
        }
    }

    private void readEdge(Deque<Token> tokens) throws Fault {
        int from = numberUpTo(blocks.size() - 1, take(tokens));
        int to = numberUpTo(blocks.size() - 1, take(tokens));
        Edge edge = addEdge(from, to, numberUpTo(99, take(tokens)));
        Token token = take(tokens);
        if (token.signs.equals(":") && !goal(edge).isEmpty()) {
            for (int i = 0; i < goal(edge).size(); i++) {
                edge.arguments.set(i, readArgument(take(tokens), goal(edge).get(i)));
            }
            token = take(tokens);
        }
        if (!token.signs.equals(";")) {
            throw new Fault(token.place);
        }
    }

    private Argument readArgument(Token token, Region parameter) throws Fault {
        if (!token.isNumber() && !token.isConstant()) {
            throw new Fault(token.place);
        }
        int told = token.isNumber() ? number(token, token.signs) : -1 - number(token, token.signs.substring(1));
        Argument argument = Argument.told(told, parameter);
        if (argument == null) {
            throw new Fault(token.place);
        }
        return argument;
    }

    private static int number(Token token, String figures) throws Fault {
        if (figures.isEmpty() || figures.length() > 3) {
            throw new Fault(token.place);
        }
        return Integer.parseInt(figures);
    }

    private static int numberUpTo(int most, Token token) throws Fault {
        if (!token.isNumber() || number(token, token.signs) > most) {
            throw new Fault(token.place);
        }
        return number(token, token.signs);
    }

    private boolean isClear(Edge edge) {
        Set<Region> regions = new HashSet<>();
        for (int i = 0; i < edge.arguments.size(); i++) {
            Region parameter = goal(edge).get(i);
            Argument argument = edge.arguments.get(i);
            if (!parameter.equals(argument.region)) {
                regions.add(parameter);
                if (argument.region != null) {
                    regions.add(argument.region);
                }
            }
        }
        return regions.stream().noneMatch(one -> regions.stream().anyMatch(one::isAcross));
    }

    /** What each open parameter wants, by bytes rising. */
    private TreeMap<Integer, Region[]> open(Edge edge) {
        TreeMap<Integer, Region[]> open = new TreeMap<>();
        for (int i = 0; i < edge.arguments.size(); i++) {
            Region parameter = goal(edge).get(i);
            Region wanted = edge.arguments.get(i).region;
            if (wanted != null && !wanted.equals(parameter)) {
                open.put(parameter.first, new Region[] {parameter, wanted});
            }
        }
        return open;
    }

    private static int moveCost(int kind, int w) {
        return new int[] {1, 1, 1, w, (int) Math.ceil(w / 2.0)}[kind];
    }

    private static int changeCost(int kind, int w) {
        return new int[] {0, 1, 3, 0, moveCost(4, w) + 1}[kind];
    }

    private List<Step> stepsOf(Edge edge, int someKind) {
        List<Step> steps = new ArrayList<>();
        TreeMap<Integer, Region[]> open = open(edge);
        Map<Region, Region> lies = new HashMap<>();
        while (!open.isEmpty()) {
            Set<Region> needed = new HashSet<>();
            open.values().forEach(pair -> needed.add(lies.getOrDefault(pair[1], pair[1])));
            Region[] next = open.values().stream().filter(pair -> !needed.contains(pair[0])).findFirst().orElse(null);
            if (next != null) {
                steps.add(new Step("MOVE", next[0], lies.getOrDefault(next[1], next[1]), 0));
                lies.put(next[1], next[0]);
                open.remove(next[0].first);
            } else {
                breakRing(steps, open, lies, someKind);
            }
        }
        TreeMap<Integer, Step> settings = new TreeMap<>();
        for (int i = 0; i < edge.arguments.size(); i++) {
            Region parameter = goal(edge).get(i);
            if (edge.arguments.get(i).region == null) {
                settings.put(parameter.first, new Step("SETTING", parameter, null, edge.arguments.get(i).constant));
            }
        }
        steps.addAll(settings.values());
        return steps;
    }

    private static void breakRing(List<Step> steps, TreeMap<Integer, Region[]> open, Map<Region, Region> lies,
            int someKind) {
        Region least = open.firstEntry().getValue()[0];
        List<Region> ring = new ArrayList<>();
        for (Region r = least; ring.isEmpty() || !r.equals(least); r = open.get(r.first)[1]) {
            ring.add(r);
        }
        int n = ring.size();
        int change = changeCost(someKind, least.width);
        if (change != 0 && (n - 1) * change < (n + 1) * moveCost(someKind, least.width)) {
            for (int i = 0; i + 1 < n; i++) {
                steps.add(new Step("CHANGE", ring.get(i), ring.get(i + 1), 0));
            }
            ring.forEach(r -> open.remove(r.first));
        } else {
            Region spare = new Region(32, least.width);
            steps.add(new Step("MOVE", spare, least, 0));
            lies.put(least, spare);
        }
    }

    private int costOf(Edge edge, int someKind) {
        return stepsOf(edge, someKind).stream().mapToInt(step -> step.sort.equals("CHANGE")
            ? changeCost(someKind, step.to.width) : moveCost(someKind, step.to.width)).sum();
    }

    /** 0, or why a call for the steps of an edge is refused. */
    private int refusal(int e, boolean rest) {
        return !isEdge(e) || !rest ? BAD : isClear(edges.get(e)) ? 0 : NO;
    }

    public int steps(int e, int what) {
        int refusal = refusal(e, what >= 0 && what <= 4);
        if (refusal != 0) {
            return refuse(refusal);
        }
        List<Step> steps = stepsOf(edges.get(e), kind);
        if (what == 4) {
            return (int) steps.stream().filter(step -> step.to.first == 32).count();
        }
        return what == 0 ? steps.size() : (int) steps.stream().filter(s -> s.sortNumber() == what - 1).count();
    }

    public int step(int e, int k, int what) {
        int refusal = refusal(e, k >= 0 && what >= 0 && what <= 2);
        if (refusal != 0) {
            return refuse(refusal);
        }
        List<Step> steps = stepsOf(edges.get(e), kind);
        if (k >= steps.size()) {
            return NONE;
        }
        Step step = steps.get(k);
        return List.of(step.sortNumber(), step.toNumber(), step.fromNumber()).get(what);
    }

    public int cost(int e) {
        int refusal = refusal(e, true);
        return refusal != 0 ? refuse(refusal) : costOf(edges.get(e), kind);
    }

    public int rings(int e, int what) {
        int refusal = refusal(e, what >= 0 && what <= 2);
        if (refusal != 0) {
            return refuse(refusal);
        }
        TreeMap<Integer, Region[]> open = open(edges.get(e));
        Set<Set<Region>> rings = new HashSet<>();
        for (Region[] start : open.values()) {
            Set<Region> ring = new HashSet<>();
            Region[] at = start;
            while (at != null && wanting(open, at[0]) == 1 && ring.add(at[0])) {
                Region wanted = at[1];
                at = open.values().stream().filter(p -> p[0].equals(wanted)).findFirst().orElse(null);
            }
            if (at == start && !ring.isEmpty()) {
                rings.add(ring);
            }
        }
        int longest = rings.stream().mapToInt(Set::size).max().orElse(0);
        int inRings = rings.stream().mapToInt(Set::size).sum();
        return List.of(rings.size(), longest, open.size() - inRings).get(what);
    }

    private static int wanting(TreeMap<Integer, Region[]> open, Region region) {
        return (int) open.values().stream().filter(pair -> pair[1].equals(region)).count();
    }

    public int cheapest(int e, int what) {
        int refusal = refusal(e, what == 0 || what == 1);
        if (refusal != 0) {
            return refuse(refusal);
        }
        TreeMap<Integer, Integer> kinds = new TreeMap<>();
        for (int k = 0; k <= 4; k++) {
            kinds.putIfAbsent(costOf(edges.get(e), k), k);
        }
        return what == 0 ? kinds.firstEntry().getValue() : kinds.firstKey();
    }

    public int free(int e, int w) {
        if (!isEdge(e) || !List.of(1, 2, 4).contains(w)) {
            return refuse(BAD);
        }
        Set<Integer> taken = new HashSet<>();
        goal(edges.get(e)).forEach(p -> taken.addAll(p.bytes()));
        edges.get(e).arguments.stream().filter(a -> a.region != null).forEach(a -> taken.addAll(a.region.bytes()));
        for (int number = 0; number < 320; number++) {
            Region region = Region.told(number);
            if (region != null && region.width == w && region.bytes().stream().noneMatch(taken::contains)) {
                return number;
            }
        }
        return NONE;
    }

    public int tail(int b) {
        if (!isBlock(b)) {
            return refuse(BAD);
        }
        List<Edge> to = edges.stream().filter(e -> e.to == b).toList();
        if (!to.stream().allMatch(this::isClear)) {
            return refuse(NO);
        }
        List<List<Step>> all = to.stream().map(e -> stepsOf(e, kind)).toList();
        for (int n = 0; !all.isEmpty() && n < 10; n++) {
            int length = n + 1;
            boolean enough = all.stream().allMatch(steps -> steps.size() >= length);
            if (!enough || all.stream().map(s -> s.subList(s.size() - length, s.size())).distinct().count() != 1) {
                return n;
            }
        }
        return 0;
    }

    /** The X's of a seed, one behind the other. */
    private static final class Xs {
        private BigInteger x;

        Xs(int seed) {
            x = BigInteger.valueOf(seed);
        }

        int next() {
            x = x.multiply(BigInteger.valueOf(1103515245)).add(BigInteger.valueOf(12345)).mod(BigInteger.ONE.shiftLeft(31));
            return x.intValueExact();
        }
    }

    public long run(int e, int seed, int way) {
        int refusal = refusal(e, seed >= 0 && seed <= 999999 && (way == 0 || way == 1));
        if (refusal != 0) {
            return refuse(refusal);
        }
        int[] bytes = new int[36];
        Xs xs = new Xs(seed);
        for (int b = 0; b < 32; b++) {
            bytes[b] = xs.next() / 65536 % 256;
        }
        Edge edge = edges.get(e);
        // way 1 is the same, the document says
        int[] ahead = bytes.clone();
        for (int i = 0; i < edge.arguments.size(); i++) {
            Region to = goal(edge).get(i);
            Argument argument = edge.arguments.get(i);
            for (int j = 0; j < to.width; j++) {
                int lone = j == 0 ? argument.constant : 0;
                bytes[to.first + j] = argument.region == null ? lone : ahead[argument.region.first + j];
            }
        }
        BigInteger h = BigInteger.ONE;
        for (int b = 0; b < 32; b++) {
            h = h.multiply(BigInteger.valueOf(31)).add(BigInteger.valueOf(bytes[b]));
        }
        return h.longValue();
    }

    public int whole(int what) {
        if (what < 0 || what > 3) {
            return refuse(BAD);
        }
        List<Edge> clear = edges.stream().filter(this::isClear).toList();
        if (what == 0) {
            return clear.stream().mapToInt(e -> e.weight * costOf(e, kind)).sum();
        }
        if (what == 1) {
            return (int) clear.stream().filter(e -> where(e) == 2 && !stepsOf(e, kind).isEmpty()).count();
        }
        return what == 2 ? edges.size() - clear.size() : clear.stream().mapToInt(e -> stepsOf(e, kind).size()).sum();
    }

    public int dearest() {
        int best = NONE;
        for (int e = edges.size() - 1; e >= 0; e--) {
            Edge edge = edges.get(e);
            boolean isMore = best == NONE
                || edge.weight * costOf(edge, kind) >= edges.get(best).weight * costOf(edges.get(best), kind);
            if (isClear(edge) && isMore) {
                best = e;
            }
        }
        return best;
    }

    public int reach(int a, int b) {
        if (!isBlock(a) || !isBlock(b)) {
            return refuse(BAD);
        }
        Set<Integer> reached = new HashSet<>(Set.of(a));
        for (int n = 0; n < 10; n++) {
            if (reached.contains(b)) {
                return n;
            }
            Set<Integer> next = new HashSet<>(reached);
            edges.stream().filter(e -> reached.contains(e.from)).forEach(e -> next.add(e.to));
            reached.addAll(next);
        }
        return NONE;
    }

    public int draw(int seed, int n, int m) {
        if (seed < 0 || seed > 999999 || n < 0 || n > 6 || m < 0 || m > 16) {
            return refuse(BAD);
        }
        blocks = new ArrayList<>();
        edges = new ArrayList<>();
        Xs xs = new Xs(seed);
        for (int b = 0; b < 8; b++) {
            List<Region> parameters = new ArrayList<>();
            for (int i = 0; i < n; i++) {
                parameters.add(new Region(4 * i, List.of(4, 2, 1).get(xs.next() / 65536 % 3)));
            }
            blocks.add(parameters);
        }
        for (int e = 0; e < m; e++) {
            int from = xs.next() / 65536 % 8;
            int to = xs.next() / 65536 % 8;
            Edge edge = addEdge(from, to, xs.next() / 65536 % 100);
            for (int i = 0; i < n; i++) {
                int x = xs.next();
                int k = x / 65536 % 8;
                edge.arguments.set(i, k == 7 ? new Argument(null, x / 1024 % 100)
                    : new Argument(new Region(4 * k, blocks.get(to).get(i).width), 0));
            }
        }
        return m;
    }

    private List<Integer> standing() {
        return List.of(refused[0], refused[1], refused[2], text.length(), blocks.size(), edges.size(), kind);
    }

    public int told(int what) {
        return what < 0 || what > 6 ? refuse(BAD) : standing().get(what);
    }

    public long digest() {
        List<Integer> values = new ArrayList<>(standing());
        for (List<Region> parameters : blocks) {
            values.add(parameters.size());
            parameters.forEach(p -> values.add(p.number()));
        }
        for (Edge edge : edges) {
            values.addAll(List.of(edge.from, edge.to, edge.weight));
            edge.arguments.forEach(a -> values.add(a.number()));
        }
        long h = 1913;
        for (int v : values) {
            h = 31 * h + v;
        }
        return h;
    }
}
