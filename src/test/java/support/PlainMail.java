import java.util.ArrayList;
import java.util.Arrays;
import java.util.HashMap;
import java.util.List;
import java.util.Map;
import java.util.TreeMap;
import java.util.TreeSet;
import java.util.regex.Matcher;
import java.util.regex.Pattern;

/** The document told again in the plainest and slowest way, to be held against RingWeaves. */
final class PlainMail {
    static final int THROWS = -99;

    private static final Pattern TOKEN = Pattern.compile("[a-z]+|[0-9]+|[^a-z0-9 \n]");
    private static final List<String> KEPT = List.of("ring", "link", "over", "under");

    record Told(int first, int second, int right, int down, boolean over) { }

    record Plan(List<String> names, List<Told> links) { }

    private final StringBuilder tape = new StringBuilder();
    private Plan inHand;
    private Plan laid;
    private int columns;
    private int rows;
    private int sheetRings;
    private int numbered;
    private final TreeSet<Integer> there = new TreeSet<>();
    /** For each ring: those it is linked with, and whether it goes over them. */
    private final Map<Integer, TreeMap<Integer, Boolean>> links = new HashMap<>();
    private int wire = 100;
    private int within = 400;
    private int heft = 8;

    int feed(long... parts) {
        for (long part : parts) {
            for (int i = 7; i >= 0; i--) {
                int sign = (int) (part >> (8 * i) & 255);
                if ((sign == 10 || sign > 31 && sign < 127) && tape.length() < 1000) {
                    tape.append((char) sign);
                }
            }
        }
        return tape.length();
    }

    // ---- the weave's text

    int weave() {
        String text = tape.toString();
        tape.setLength(0);
        List<String> tokens = new ArrayList<>();
        List<Integer> places = new ArrayList<>();
        Matcher matcher = TOKEN.matcher(text);
        while (matcher.find()) {
            tokens.add(matcher.group());
            places.add(matcher.start());
        }
        tokens.add("");
        places.add(text.length());
        Plan plan = new Plan(new ArrayList<>(), new ArrayList<>());
        List<String> told = new ArrayList<>();
        String state = "start";
        for (int i = 0; i < tokens.size(); i++) {
            int kind = wrong(state, tokens.get(i), plan, told);
            if (kind != 0) {
                return kind + 16 * places.get(i);
            }
            state = follow(state, tokens.get(i), plan, told);
        }
        inHand = plan;
        return 0;
    }

    private static int wrong(String state, String token, Plan plan, List<String> told) {
        if (!stands(state, token)) {
            return 1;
        }
        boolean isTold = plan.names.contains(token);
        switch (state) {
            case "start": case "rings": case "links":
                return token.equals("ring") && plan.names.size() == 4
                    || token.equals("link") && plan.links.size() == 24 ? 5 : 0;
            case "name":
                return isTold ? 3 : 0;
            case "first": case "second":
                return isTold ? 0 : 2;
            case "over":
                return fits(link(plan, told, true), plan) ? 0 : 6;
            default:
                return token.matches("[0-9]+") && Integer.parseInt(token) > 9 ? 4 : 0;
        }
    }

    private static boolean stands(String state, String token) {
        switch (state) {
            case "start": return token.equals("ring");
            case "rings": return token.equals("ring") || token.equals("link") || token.isEmpty();
            case "links": return token.equals("link") || token.isEmpty();
            case "name": case "first": case "second":
                return token.matches("[a-z]{1,8}") && !KEPT.contains(token);
            case "ring;": case "link;": return token.equals(";");
            case "right": case "down": return token.matches("[0-9]{1,4}|[+-]");
            case "right number": case "down number": return token.matches("[0-9]{1,4}");
            default: return token.equals("over") || token.equals("under");
        }
    }

    private static String follow(String state, String token, Plan plan, List<String> told) {
        switch (state) {
            case "start": case "rings": case "links":
                told.clear();
                return token.equals("ring") ? "name" : "first";
            case "name": plan.names.add(token); return "ring;";
            case "ring;": return "rings";
            case "first": told.add(token); return "second";
            case "second": told.add(token); return "right";
            case "right": case "down":
                if (token.matches("[+-]")) {
                    told.add(token);
                    return state + " number";
                }
                told.add("+");
                told.add(token);
                return state.equals("right") ? "down" : "over";
            case "right number": told.add(token); return "down";
            case "down number": told.add(token); return "over";
            case "over": plan.links.add(link(plan, told, token.equals("over"))); return "link;";
            default: return "links";
        }
    }

    private static Told link(Plan plan, List<String> told, boolean over) {
        int right = Integer.parseInt(told.get(3)) * (told.get(2).equals("-") ? -1 : 1);
        int down = Integer.parseInt(told.get(5)) * (told.get(4).equals("-") ? -1 : 1);
        return new Told(plan.names.indexOf(told.get(0)), plan.names.indexOf(told.get(1)), right, down, over);
    }

    private static boolean fits(Told told, Plan plan) {
        Told back = new Told(told.second, told.first, -told.right, -told.down, true);
        if (back.equals(told)) {
            return false;
        }
        for (Told other : plan.links) {
            Told plain = new Told(other.first, other.second, other.right, other.down, true);
            if (plain.equals(told) || plain.equals(back)) {
                return false;
            }
        }
        return true;
    }

    // ---- the sheet

    int lay(int newColumns, int newRows) {
        if (inHand == null || newColumns < 1 || newColumns > 12 || newRows < 1 || newRows > 12
            || newColumns * newRows * inHand.names.size() > 240) {
            return -1;
        }
        laid = inHand;
        columns = newColumns;
        rows = newRows;
        sheetRings = columns * rows * laid.names.size();
        numbered = sheetRings;
        there.clear();
        links.clear();
        for (int ring = 0; ring < sheetRings; ring++) {
            there.add(ring);
        }
        for (int[] pair : toldPairs()) {
            if (pair[1] >= 0) {
                join(pair[0], pair[1], pair[2] == 1);
            }
        }
        return sheetRings;
    }

    /** All links of the weave from all cells, those to beyond the sheet too: {from, to or -1, over}. */
    private List<int[]> toldPairs() {
        List<int[]> pairs = new ArrayList<>();
        for (int row = -9; row < rows + 9; row++) {
            for (int column = -9; column < columns + 9; column++) {
                for (Told told : laid.links) {
                    int from = at(column, row, told.first);
                    int to = at(column + told.right, row + told.down, told.second);
                    if (from >= 0) {
                        pairs.add(new int[] {from, to, told.over ? 1 : 0});
                    } else if (to >= 0) {
                        pairs.add(new int[] {to, -1, 0});
                    }
                }
            }
        }
        return pairs;
    }

    int at(int column, int row, int k) {
        if (laid == null || column < 0 || column >= columns || row < 0 || row >= rows
            || k < 0 || k >= laid.names.size()) {
            return -1;
        }
        return row * columns * laid.names.size() + column * laid.names.size() + k;
    }

    int add() {
        if (numbered == 300) {
            return -1;
        }
        there.add(numbered);
        return numbered++;
    }

    int take(int ring) {
        if (!there.contains(ring)) {
            return -1;
        }
        there.remove(ring);
        TreeMap<Integer, Boolean> had = of(ring);
        links.remove(ring);
        for (int other : had.keySet()) {
            of(other).remove(ring);
        }
        return had.size();
    }

    int link(int a, int b) {
        if (a == b || !there.contains(a) || !there.contains(b) || of(a).containsKey(b)) {
            return 0;
        }
        join(a, b, true);
        return 1;
    }

    int unlink(int a, int b) {
        if (!there.contains(a) || !there.contains(b) || !of(a).containsKey(b)) {
            return 0;
        }
        of(a).remove(b);
        of(b).remove(a);
        return 1;
    }

    int mend() {
        TreeSet<Integer> worn = worn();
        there.addAll(worn);
        if (laid != null) {
            for (int[] pair : toldPairs()) {
                if (pair[1] >= 0 && (worn.contains(pair[0]) || worn.contains(pair[1]))) {
                    join(pair[0], pair[1], pair[2] == 1);
                }
            }
        }
        return worn.size();
    }

    private TreeSet<Integer> worn() {
        TreeSet<Integer> worn = new TreeSet<>();
        for (int ring = 0; ring < sheetRings; ring++) {
            if (!there.contains(ring)) {
                worn.add(ring);
            }
        }
        return worn;
    }

    private void join(int a, int b, boolean over) {
        of(a).put(b, over);
        of(b).put(a, !over);
    }

    private TreeMap<Integer, Boolean> of(int ring) {
        return links.computeIfAbsent(ring, r -> new TreeMap<>());
    }

    // ---- what is asked

    int look(int ring, int what) {
        if (ring < 0 || ring >= numbered || what < 0 || what > 6) {
            return THROWS;
        }
        if (what == 0) {
            return there.contains(ring) ? 1 : 0;
        }
        if (!there.contains(ring)) {
            return THROWS;
        }
        switch (what) {
            case 1: return of(ring).size();
            case 2: return full().contains(ring) ? 1 : 0;
            case 3: return binds(ring) ? 1 : 0;
            case 4: return cut().contains(ring) ? 1 : 0;
            case 5: return opened() != null && opened().contains(ring) ? 1 : 0;
            default: return pieceOf(ring, NOBODY).first();
        }
    }

    private static final int NOBODY = -7;

    int over(int a, int b) {
        if (!there.contains(a) || !there.contains(b)) {
            return -2;
        }
        Boolean over = of(a).get(b);
        return over == null ? 0 : over ? 1 : -1;
    }

    int linked(int ring, int i) {
        if (!there.contains(ring) || i < 0 || i >= of(ring).size()) {
            return -1;
        }
        return new ArrayList<>(of(ring).keySet()).get(i);
    }

    int fewest() {
        TreeSet<Integer> opened = opened();
        return opened == null ? -1 : opened.size();
    }

    int order(int i) {
        TreeSet<Integer> opened = opened();
        if (opened == null || i < 0 || i >= opened.size()) {
            return -1;
        }
        return inOrder(opened).get(i);
    }

    int sizes(int newWire, int newWithin, int g) {
        if (newWire < 1 || newWire > 999 || newWithin < 1 || newWithin > 9999 || g < 1 || g > 99) {
            return 0;
        }
        wire = newWire;
        within = newWithin;
        heft = g;
        return 1;
    }

    int count(int what) {
        switch (what) {
            case 0: return there.size();
            case 1: return there.stream().mapToInt(r -> of(r).size()).sum() / 2;
            case 2: return pieces(NOBODY);
            case 3: return full().size();
            case 4: return (int) there.stream().filter(this::binds).count();
            case 5: return cut().size();
            case 6: return (int) wireSum();
            case 7: return (int) (wireSum() * wire * wire * heft / 1000000);
            case 8: return numbered;
            case 9: return inHand == null ? 0 : inHand.names.size();
            case 10: return inHand == null ? 0 : inHand.links.size();
            case 11: return tape.length();
            case 12: return worn().size();
            default: return -1;
        }
    }

    private long wireSum() {
        long sum = 0;
        for (int ring : there) {
            sum += (within + wire) * 355L / 113;
        }
        return sum;
    }

    private boolean binds(int ring) {
        int n = of(ring).size();
        int[] room = {0, 1000, 2000, 2155, 2414, 2701, 3000, 3000, 3304};
        int factor = n < 9 ? room[n] : 3304 + (n - 8) * 400;
        return n > 0 && 1000L * within < (long) wire * factor;
    }

    private TreeSet<Integer> full() {
        TreeSet<Integer> full = new TreeSet<>();
        if (laid == null) {
            return full;
        }
        full.addAll(there.headSet(sheetRings));
        for (int[] pair : toldPairs()) {
            if (pair[1] < 0) {
                full.remove(pair[0]);
            } else if (!Boolean.valueOf(pair[2] == 1).equals(of(pair[0]).get(pair[1]))) {
                full.remove(pair[0]);
                full.remove(pair[1]);
            }
        }
        return full;
    }

    // ---- pieces

    private TreeSet<Integer> pieceOf(int ring, int without) {
        TreeSet<Integer> piece = new TreeSet<>();
        List<Integer> open = new ArrayList<>(List.of(ring));
        while (!open.isEmpty()) {
            int next = open.remove(open.size() - 1);
            if (next != without && piece.add(next)) {
                open.addAll(of(next).keySet());
            }
        }
        return piece;
    }

    private int pieces(int without) {
        int pieces = 0;
        TreeSet<Integer> left = new TreeSet<>(there);
        left.remove(without);
        while (!left.isEmpty()) {
            left.removeAll(pieceOf(left.first(), without));
            pieces++;
        }
        return pieces;
    }

    private TreeSet<Integer> cut() {
        TreeSet<Integer> cut = new TreeSet<>();
        int all = pieces(NOBODY);
        for (int ring : there) {
            if (pieces(ring) > all) {
                cut.add(ring);
            }
        }
        return cut;
    }

    // ---- making

    private TreeSet<Integer> opened() {
        TreeSet<Integer> opened = new TreeSet<>();
        TreeSet<Integer> left = new TreeSet<>(there);
        while (!left.isEmpty()) {
            TreeSet<Integer> piece = pieceOf(left.first(), NOBODY);
            left.removeAll(piece);
            TreeSet<Integer> first = firstSide(piece);
            if (first == null) {
                return null;
            }
            TreeSet<Integer> ofPiece = openedOf(piece, first);
            if (piece.size() <= 14 && ofPiece.size() != fewestByTrying(new ArrayList<>(piece))) {
                throw new IllegalStateException("the model itself is wrong");
            }
            opened.addAll(ofPiece);
        }
        return opened;
    }

    private TreeSet<Integer> firstSide(TreeSet<Integer> piece) {
        Map<Integer, Integer> far = new HashMap<>();
        List<Integer> queue = new ArrayList<>(List.of(piece.first()));
        far.put(piece.first(), 0);
        for (int i = 0; i < queue.size(); i++) {
            for (int other : of(queue.get(i)).keySet()) {
                if (far.putIfAbsent(other, far.get(queue.get(i)) + 1) == null) {
                    queue.add(other);
                }
            }
        }
        TreeSet<Integer> first = new TreeSet<>();
        for (int ring : piece) {
            for (int other : of(ring).keySet()) {
                if (far.get(ring) % 2 == far.get(other) % 2) {
                    return null;
                }
            }
            if (far.get(ring) % 2 == 0) {
                first.add(ring);
            }
        }
        return first;
    }

    private TreeSet<Integer> openedOf(TreeSet<Integer> piece, TreeSet<Integer> first) {
        Map<Integer, Integer> pair = new HashMap<>();
        // From the greatest down: other pairs than the class finds, the same rings opened.
        for (int ring : first.descendingSet()) {
            pairUp(ring, pair, new TreeSet<>());
        }
        TreeSet<Integer> a = new TreeSet<>(first);
        TreeSet<Integer> b = new TreeSet<>();
        for (int ring : pair.keySet()) {
            a.remove(pair.get(ring));
        }
        boolean more = true;
        while (more) {
            more = false;
            for (int ring : new ArrayList<>(a)) {
                for (int other : of(ring).keySet()) {
                    more |= b.add(other);
                    if (pair.containsKey(other)) {
                        more |= a.add(pair.get(other));
                    }
                }
            }
        }
        TreeSet<Integer> opened = new TreeSet<>(b);
        for (int ring : first) {
            if (!a.contains(ring) && !of(ring).isEmpty()) {
                opened.add(ring);
            }
        }
        return opened;
    }

    private boolean pairUp(int ring, Map<Integer, Integer> pair, TreeSet<Integer> tried) {
        for (int other : of(ring).descendingKeySet()) {
            if (tried.add(other) && (!pair.containsKey(other) || pairUp(pair.get(other), pair, tried))) {
                pair.put(other, ring);
                return true;
            }
        }
        return false;
    }

    private int fewestByTrying(List<Integer> piece) {
        int[] near = new int[piece.size()];
        for (int i = 0; i < near.length; i++) {
            for (int other : of(piece.get(i)).keySet()) {
                near[i] |= 1 << piece.indexOf(other);
            }
        }
        int fewest = near.length;
        for (int set = 0; set < 1 << near.length; set++) {
            boolean covers = true;
            for (int i = 0; i < near.length && covers; i++) {
                covers = (set >> i & 1) == 1 || (near[i] & ~set) == 0;
            }
            if (covers) {
                fewest = Math.min(fewest, Integer.bitCount(set));
            }
        }
        return fewest;
    }

    private List<Integer> inOrder(TreeSet<Integer> opened) {
        List<Integer> order = new ArrayList<>();
        while (order.size() < opened.size()) {
            TreeSet<Integer> hand = new TreeSet<>(order);
            for (int ring : order) {
                hand.addAll(of(ring).keySet());
            }
            int best = -1;
            for (int ring : opened.descendingSet()) {
                if (!order.contains(ring) && of(ring).keySet().stream().anyMatch(hand::contains)) {
                    best = ring;
                }
            }
            for (int ring : opened) {
                if (best == -1 && !order.contains(ring)) {
                    best = ring;
                }
            }
            order.add(best);
        }
        return order;
    }

    @Override
    public String toString() {
        return "numbered " + numbered + ", there " + there + ", " + Arrays.asList(links);
    }
}
