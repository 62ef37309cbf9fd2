import java.math.BigInteger;
import java.util.ArrayList;
import java.util.HashSet;
import java.util.List;
import java.util.Set;

/**
 * The document told a second time, slowly and by other ways than the program goes: rows of
 * fractions, minors, least trees by joining, all tables one by one, words as lists.
 * A step is e and 1 along, less that back.
 */
final class Model {
    static final int BAD = -1, NOT = -2, FULL = -3, NONE = -4, SPENT = -5, NULL = -11, CAST = -12, INDEX = -13, SIZE = -14;

    static final class Sp {
        int corners = 1;
        List<int[]> edges = new ArrayList<>();
        List<List<Integer>> rims = new ArrayList<>();

        int start(int step) {
            return step > 0 ? edges.get(step - 1)[0] : edges.get(-step - 1)[1];
        }

        int end(int step) {
            return start(-step);
        }

        boolean names(int step) {
            return step != 0 && Math.abs((long) step) <= edges.size();
        }

        int[] groups() {
            int[] group = new int[corners];
            for (int c = 0; c < corners; c++) {
                group[c] = c;
            }
            for (int[] e : edges) {
                merge(group, e[0], e[1]);
            }
            return group;
        }

        static void merge(int[] group, int a, int b) {
            int from = group[a];
            int to = group[b];
            for (int c = 0; c < group.length; c++) {
                if (group[c] == from) {
                    group[c] = to;
                }
            }
        }

        boolean inPart(int corner) {
            int[] group = groups();
            return group[corner] == group[0];
        }

        boolean edgeInPart(int e) {
            return inPart(edges.get(e)[0]);
        }

        /** Joining by the least edges first gives the tree that growing from corner 0 gives. */
        boolean inTree(int e) {
            int[] group = new int[corners];
            for (int c = 0; c < corners; c++) {
                group[c] = c;
            }
            for (int k = 0; k < e; k++) {
                merge(group, edges.get(k)[0], edges.get(k)[1]);
            }
            return edgeInPart(e) && group[edges.get(e)[0]] != group[edges.get(e)[1]];
        }

        List<Integer> turns() {
            List<Integer> turns = new ArrayList<>();
            for (int e = 0; e < edges.size(); e++) {
                if (edgeInPart(e) && !inTree(e)) {
                    turns.add(e);
                }
            }
            return turns;
        }

        long[][] paneRows() {
            long[][] rows = new long[rims.size()][edges.size()];
            for (int f = 0; f < rims.size(); f++) {
                for (int step : rims.get(f)) {
                    rows[f][Math.abs(step) - 1] += Integer.signum(step);
                }
            }
            return rows;
        }

        long[][] edgeRows() {
            long[][] rows = new long[edges.size()][corners];
            for (int e = 0; e < edges.size(); e++) {
                rows[e][edges.get(e)[1]]++;
                rows[e][edges.get(e)[0]]--;
            }
            return rows;
        }
    }

    static final class Word {
        int space;
        int begin;
        int end;
        List<Integer> steps = new ArrayList<>();
    }

    static final class Row {
        int lane;
        int[] items;
    }

    final Sp[] spaces = {new Sp(), new Sp()};
    final Word[] slots = new Word[4];
    final Row[] sheets = new Row[4];
    String tape = "";
    Sp cover;
    int coverOver;
    int coverStoreys;
    /** Of each edge of what the layer lies over where storeys go; null of one not of the part. */
    List<int[]> coverMoves;
    List<int[]> coverTable;

    // ---- 1

    static boolean own(int space) {
        return space == 0 || space == 1;
    }

    Sp seen(int space) {
        return own(space) ? spaces[space] : space == 2 ? cover : null;
    }

    void empty(int space) {
        for (int s = 0; s < 4; s++) {
            if (slots[s] != null && slots[s].space == space) {
                slots[s] = null;
            }
        }
    }

    int corners(int space, int c) {
        if (!own(space) || c < 1 || c > 8) {
            return BAD;
        }
        int before = spaces[space].corners;
        spaces[space] = new Sp();
        spaces[space].corners = c;
        empty(space);
        return before;
    }

    int edge(int space, int from, int to) {
        if (!own(space)) {
            return BAD;
        }
        Sp sp = spaces[space];
        if (from < 0 || to < 0 || from >= sp.corners || to >= sp.corners) {
            return BAD;
        }
        if (sp.edges.size() == 12) {
            return FULL;
        }
        sp.edges.add(new int[] {from, to});
        return sp.edges.size() - 1;
    }

    int type(long w, int n) {
        if (n < 1 || n > 8) {
            return BAD;
        }
        StringBuilder typed = new StringBuilder();
        for (int i = 0; i < n; i++) {
            typed.insert(0, (char) (w & 255));
            w >>= 8;
        }
        for (char c : typed.toString().toCharArray()) {
            if (c < 32 || c > 126) {
                return BAD;
            }
        }
        if (tape.length() + n > 120) {
            return FULL;
        }
        tape += typed;
        return tape.length();
    }

    /** The tape in tokens: letters and signs one by one, digits that stand together as one. */
    private List<String> tokens;
    private List<Integer> places;
    private int at;

    private void split() {
        tokens = new ArrayList<>();
        places = new ArrayList<>();
        at = 0;
        int i = 0;
        while (i < tape.length()) {
            int from = i++;
            if (tape.charAt(from) == ' ') {
                continue;
            }
            while (Character.isDigit(tape.charAt(from)) && i < tape.length() && Character.isDigit(tape.charAt(i))) {
                i++;
            }
            tokens.add(tape.substring(from, i));
            places.add(from);
        }
        tokens.add("");
        places.add(tape.length());
        tape = "";
    }

    private int fault() {
        return -20 - places.get(at);
    }

    private Integer number(int least, int most) {
        String token = tokens.get(at);
        if (!token.matches("[0-9]+")) {
            return null;
        }
        BigInteger value = new BigInteger(token);
        if (value.compareTo(BigInteger.valueOf(least)) < 0 || value.compareTo(BigInteger.valueOf(most)) > 0) {
            return null;
        }
        at++;
        return value.intValue();
    }

    private boolean sign(String due) {
        if (!tokens.get(at).equals(due)) {
            return false;
        }
        at++;
        return true;
    }

    private List<Integer> letters(Sp sp, int most) {
        List<Integer> steps = new ArrayList<>();
        while (tokens.get(at).matches("[a-zA-Z]") && steps.size() < most) {
            char c = tokens.get(at).charAt(0);
            int step = Character.isLowerCase(c) ? c - 'a' + 1 : -(c - 'A' + 1);
            if (!sp.names(step)) {
                break;
            }
            if (!steps.isEmpty() && sp.end(steps.get(steps.size() - 1)) != sp.start(step)) {
                break;
            }
            steps.add(step);
            at++;
        }
        return steps;
    }

    private List<Integer> rimLetters(Sp sp) {
        List<Integer> steps = letters(sp, 8);
        if (steps.isEmpty() || sp.start(steps.get(0)) != sp.end(steps.get(steps.size() - 1))) {
            return null;
        }
        return steps;
    }

    int face(int space) {
        if (!own(space)) {
            return BAD;
        }
        split();
        List<Integer> steps = rimLetters(spaces[space]);
        if (steps == null || !tokens.get(at).isEmpty()) {
            return fault();
        }
        if (spaces[space].rims.size() == 8) {
            return FULL;
        }
        spaces[space].rims.add(steps);
        return spaces[space].rims.size() - 1;
    }

    int text(int space) {
        if (!own(space)) {
            return BAD;
        }
        split();
        Sp sp = new Sp();
        if (!told(sp)) {
            return fault();
        }
        spaces[space] = sp;
        empty(space);
        return sp.rims.size();
    }

    private boolean told(Sp sp) {
        Integer corners = number(1, 8);
        if (corners == null) {
            return false;
        }
        sp.corners = corners;
        while (sign(";")) {
            if (sp.rims.size() < 8 && sign(":")) {
                List<Integer> rim = rimLetters(sp);
                if (rim == null) {
                    return false;
                }
                sp.rims.add(rim);
                continue;
            }
            if (sp.edges.size() == 12 || !sign(String.valueOf((char) ('a' + sp.edges.size()))) || !sign("=")) {
                return false;
            }
            Integer from = number(0, corners - 1);
            if (from == null || !sign(">")) {
                return false;
            }
            Integer to = number(0, corners - 1);
            if (to == null) {
                return false;
            }
            sp.edges.add(new int[] {from, to});
        }
        return tokens.get(at).isEmpty();
    }

    int count(int space, int what) {
        Sp sp = seen(space);
        if (sp == null || what < 0 || what > 5) {
            return -1001;
        }
        int part = 0;
        for (int c = 0; c < sp.corners; c++) {
            part += sp.inPart(c) ? 1 : 0;
        }
        int[] all = {sp.corners, sp.edges.size(), sp.rims.size(),
            sp.corners - sp.edges.size() + sp.rims.size(), part, sp.turns().size()};
        return all[what];
    }

    int told(int space, int edge, int what) {
        Sp sp = seen(space);
        if (sp == null || edge < 0 || edge >= sp.edges.size() || what < 0 || what > 2) {
            return BAD;
        }
        return what < 2 ? sp.edges.get(edge)[what] : sp.inTree(edge) ? 1 : 0;
    }

    static int shown(int step) {
        return step > 0 ? step - 1 : -step - 1 + 100;
    }

    int rim(int space, int face, int i) {
        Sp sp = seen(space);
        if (sp == null || face < 0 || face >= sp.rims.size() || i < 0 || i >= sp.rims.get(face).size()) {
            return BAD;
        }
        return shown(sp.rims.get(face).get(i));
    }

    // ---- 2

    static int rank(long[][] rows, int p) {
        if (rows.length == 0) {
            return 0;
        }
        BigInteger[][] m = new BigInteger[rows.length][rows[0].length];
        for (int i = 0; i < rows.length; i++) {
            for (int j = 0; j < rows[0].length; j++) {
                m[i][j] = part(BigInteger.valueOf(rows[i][j]), p);
            }
        }
        int rank = 0;
        for (int j = 0; j < rows[0].length && rank < rows.length; j++) {
            int i = rank;
            while (i < rows.length && m[i][j].signum() == 0) {
                i++;
            }
            if (i == rows.length) {
                continue;
            }
            BigInteger[] kept = m[i];
            m[i] = m[rank];
            m[rank] = kept;
            for (int k = rank + 1; k < rows.length; k++) {
                BigInteger head = m[k][j];
                for (int l = 0; l < rows[0].length; l++) {
                    m[k][l] = part(m[k][l].multiply(kept[j]).subtract(kept[l].multiply(head)), p);
                }
            }
            rank++;
        }
        return rank;
    }

    private static BigInteger part(BigInteger value, int p) {
        return p == 0 ? value : value.mod(BigInteger.valueOf(p));
    }

    int holes(int space, int dimension, int p) {
        Sp sp = seen(space);
        if (sp == null || dimension < 0 || dimension > 2 || !List.of(0, 2, 3, 5, 7).contains(p) || space == 2 && p == 0) {
            return BAD;
        }
        int r1 = rank(sp.edgeRows(), p);
        int r2 = rank(sp.paneRows(), p);
        int[] all = {sp.corners - r1, sp.edges.size() - r1 - r2, sp.rims.size() - r2};
        return all[dimension];
    }

    /** The greatest number in all minors of k rows and columns is d1 times .. times dk. */
    static List<Long> factors(long[][] rows) {
        int height = rows.length;
        int width = height == 0 ? 0 : rows[0].length;
        List<Long> factors = new ArrayList<>();
        long[][] minors = new long[1 << height][1 << width];
        minors[0][0] = 1;
        BigInteger[] divisors = new BigInteger[Math.min(height, width) + 1];
        for (int r = 1; r < 1 << height; r++) {
            int k = Integer.bitCount(r);
            int low = Integer.numberOfTrailingZeros(r);
            for (int c = 0; c < 1 << width; c++) {
                if (Integer.bitCount(c) != k) {
                    continue;
                }
                long sum = 0;
                long sign = 1;
                for (int j = 0; j < width; j++) {
                    if ((c >> j & 1) == 1) {
                        sum += sign * rows[low][j] * minors[r & r - 1][c & ~(1 << j)];
                        sign = -sign;
                    }
                }
                minors[r][c] = sum;
                BigInteger divisor = divisors[k] == null ? BigInteger.ZERO : divisors[k];
                divisors[k] = sum == 0 ? divisor : divisor.gcd(BigInteger.valueOf(sum));
            }
        }
        BigInteger before = BigInteger.ONE;
        for (int k = 1; k < divisors.length && divisors[k] != null && divisors[k].signum() != 0; k++) {
            factors.add(divisors[k].divide(before).longValueExact());
            before = divisors[k];
        }
        return factors;
    }

    long bend(int space, int i) {
        if (!own(space) || i < 0) {
            return BAD;
        }
        List<Long> above = new ArrayList<>();
        for (long d : factors(spaces[space].paneRows())) {
            if (d > 1) {
                above.add(d);
            }
        }
        return i < above.size() ? above.get(i) : NONE;
    }

    // ---- 3

    static List<int[]> shuffles(int n) {
        List<int[]> all = new ArrayList<>();
        grow(new ArrayList<>(), n, all);
        return all;
    }

    private static void grow(List<Integer> begun, int n, List<int[]> all) {
        if (begun.size() == n) {
            all.add(begun.stream().mapToInt(Integer::intValue).toArray());
        }
        for (int t = 0; t < n; t++) {
            if (!begun.contains(t)) {
                begun.add(t);
                grow(begun, n, all);
                begun.remove(begun.size() - 1);
            }
        }
    }

    static boolean many(Sp sp, int n) {
        double all = Math.pow(shuffles(n).size(), sp.turns().size());
        return all > 20000.5;
    }

    /** Where a storey comes by steps; what moves is told for each edge. */
    static int go(List<Integer> steps, List<int[]> moves, int storey) {
        for (int step : steps) {
            storey = goOne(step, moves, storey);
        }
        return storey;
    }

    static int goOne(int step, List<int[]> moves, int storey) {
        int[] move = moves.get(Math.abs(step) - 1);
        if (step > 0) {
            return move[storey];
        }
        int s = 0;
        while (move[s] != storey) {
            s++;
        }
        return s;
    }

    /** Of each edge where storeys go, by a table told for turns. */
    static List<int[]> movesOf(Sp sp, List<int[]> table, int n) {
        List<int[]> moves = new ArrayList<>();
        List<Integer> turns = sp.turns();
        for (int e = 0; e < sp.edges.size(); e++) {
            int turn = turns.indexOf(e);
            moves.add(turn >= 0 ? table.get(turn) : sp.inTree(e) ? shuffles(n).get(0) : null);
        }
        return moves;
    }

    static List<List<int[]>> held(Sp sp, int n) {
        List<List<int[]>> held = new ArrayList<>();
        List<int[]> all = shuffles(n);
        int turns = sp.turns().size();
        List<List<Integer>> rims = new ArrayList<>();
        for (List<Integer> rim : sp.rims) {
            if (sp.inPart(sp.start(rim.get(0)))) {
                rims.add(rim);
            }
        }
        List<int[]> empty = new ArrayList<>();
        for (int t = 0; t < turns; t++) {
            empty.add(null);
        }
        List<int[]> moves = movesOf(sp, empty, n);
        List<Integer> turnEdges = sp.turns();
        long codes = Math.round(Math.pow(all.size(), turns));
        for (long code = 0; code < codes; code++) {
            List<int[]> table = new ArrayList<>();
            long rest = code;
            for (int t = 0; t < turns; t++) {
                table.add(0, all.get((int) (rest % all.size())));
                rest /= all.size();
            }
            for (int t = 0; t < turns; t++) {
                moves.set(turnEdges.get(t), table.get(t));
            }
            boolean holds = true;
            for (List<Integer> rim : rims) {
                for (int s = 0; s < n && holds; s++) {
                    holds = go(rim, moves, s) == s;
                }
            }
            if (holds) {
                held.add(table);
            }
        }
        return held;
    }

    static boolean one(List<int[]> table, int n) {
        Set<Integer> seen = new HashSet<>(Set.of(0));
        for (int round = 0; round < n; round++) {
            for (int s : List.copyOf(seen)) {
                for (int[] move : table) {
                    seen.add(move[s]);
                }
            }
        }
        return seen.size() == n;
    }

    static String written(List<int[]> table, int[] numbers) {
        StringBuilder written = new StringBuilder();
        for (int[] move : table) {
            int[] changed = new int[move.length];
            for (int s = 0; s < move.length; s++) {
                changed[numbers[s]] = numbers[move[s]];
            }
            written.append(java.util.Arrays.toString(changed));
        }
        return written.toString();
    }

    static List<List<int[]>> layerTables(Sp sp, int n) {
        Set<String> seen = new HashSet<>();
        List<List<int[]>> firsts = new ArrayList<>();
        for (List<int[]> table : held(sp, n)) {
            if (one(table, n) && !seen.contains(written(table, shuffles(n).get(0)))) {
                firsts.add(table);
                for (int[] numbers : shuffles(n)) {
                    seen.add(written(table, numbers));
                }
            }
        }
        return firsts;
    }

    int tables(int space, int n) {
        if (!own(space) || n < 2 || n > 4) {
            return BAD;
        }
        return many(spaces[space], n) ? NOT : held(spaces[space], n).size();
    }

    int layers(int space, int n) {
        if (!own(space) || n < 2 || n > 4) {
            return BAD;
        }
        return many(spaces[space], n) ? NOT : layerTables(spaces[space], n).size();
    }

    int layer(int space, int n, int i) {
        if (!own(space) || n < 2 || n > 4 || i < 0) {
            return BAD;
        }
        Sp sp = spaces[space];
        if (many(sp, n)) {
            return NOT;
        }
        List<List<int[]>> all = layerTables(sp, n);
        if (i >= all.size()) {
            return BAD;
        }
        coverTable = all.get(i);
        coverMoves = movesOf(sp, coverTable, n);
        coverOver = space;
        coverStoreys = n;
        cover = laid(sp, n);
        return cover.turns().size();
    }

    private Sp laid(Sp sp, int n) {
        List<Integer> corners = new ArrayList<>();
        List<Integer> edges = new ArrayList<>();
        for (int c = 0; c < sp.corners; c++) {
            if (sp.inPart(c)) {
                corners.add(c);
            }
        }
        for (int e = 0; e < sp.edges.size(); e++) {
            if (sp.edgeInPart(e)) {
                edges.add(e);
            }
        }
        Sp over = new Sp();
        over.corners = n * corners.size();
        for (int e : edges) {
            for (int s = 0; s < n; s++) {
                over.edges.add(new int[] {n * corners.indexOf(sp.edges.get(e)[0]) + s,
                    n * corners.indexOf(sp.edges.get(e)[1]) + coverMoves.get(e)[s]});
            }
        }
        for (List<Integer> rim : sp.rims) {
            for (int s = 0; s < n && sp.inPart(sp.start(rim.get(0))); s++) {
                List<Integer> up = new ArrayList<>();
                int here = s;
                for (int step : rim) {
                    int next = goOne(step, coverMoves, here);
                    int e = n * edges.indexOf(Math.abs(step) - 1) + (step > 0 ? here : next);
                    up.add(step > 0 ? e + 1 : -(e + 1));
                    here = next;
                }
                over.rims.add(up);
            }
        }
        return over;
    }

    int storeys(int space) {
        if (space < 0 || space > 2 || space == 2 && cover == null) {
            return BAD;
        }
        return space == 2 ? coverStoreys : CAST;
    }

    int moves(int turn, int storey) {
        if (cover == null) {
            return NONE;
        }
        if (turn < 0 || turn >= coverTable.size() || storey < 0 || storey >= coverStoreys) {
            return BAD;
        }
        return coverTable.get(turn)[storey];
    }

    int lift(int slot, int storey) {
        if (cover == null) {
            return NONE;
        }
        if (slot < 0 || slot > 3 || storey < 0 || storey >= coverStoreys) {
            return BAD;
        }
        Word word = slots[slot];
        if (word == null || word.space != coverOver || word.begin != 0) {
            return NOT;
        }
        for (int step : word.steps) {
            if (Math.abs(step) > coverMoves.size() || coverMoves.get(Math.abs(step) - 1) == null) {
                return NOT;
            }
        }
        return go(word.steps, coverMoves, storey);
    }

    int moved(int slot) {
        if (slot < 0 || slot > 3) {
            return BAD;
        }
        Word word = slots[slot];
        if (word == null || word.begin != 0 || word.end != 0) {
            return NOT;
        }
        Sp sp = spaces[word.space];
        for (int n = 2; n <= 4; n++) {
            if (many(sp, n)) {
                continue;
            }
            for (List<int[]> table : held(sp, n)) {
                List<int[]> moves = movesOf(sp, table, n);
                for (int s = 0; s < n; s++) {
                    if (go(word.steps, moves, s) != s) {
                        return n;
                    }
                }
            }
        }
        return NONE;
    }

    // ---- 4

    static List<Integer> reduced(List<Integer> steps) {
        List<Integer> left = new ArrayList<>(steps);
        int i = 0;
        while (i + 1 < left.size()) {
            if (left.get(i) == -left.get(i + 1)) {
                left.remove(i);
                left.remove(i);
                i = 0;
            } else {
                i++;
            }
        }
        return left;
    }

    private int keep(int slot, int space, List<Integer> steps) {
        Word word = new Word();
        word.space = space;
        if (!steps.isEmpty()) {
            word.begin = spaces[space].start(steps.get(0));
            word.end = spaces[space].end(steps.get(steps.size() - 1));
        }
        word.steps = reduced(steps);
        slots[slot] = word;
        return word.steps.size();
    }

    int word(int slot, int space) {
        if (slot < 0 || slot > 3 || !own(space)) {
            return BAD;
        }
        split();
        List<Integer> steps = letters(spaces[space], 16);
        return tokens.get(at).isEmpty() ? keep(slot, space, steps) : fault();
    }

    int walk(int slot, int space, int sheet, int lane, int from, int n) {
        if (slot < 0 || slot > 3 || !own(space) || n < 0 || n > 16) {
            return BAD;
        }
        int refused = row(sheet, lane);
        if (refused != 0) {
            return refused;
        }
        int[] items = sheets[sheet].items;
        if (from < 0 || (long) from + n > items.length) {
            return INDEX;
        }
        List<Integer> steps = new ArrayList<>();
        for (int i = from; i < from + n; i++) {
            if (!spaces[space].names(items[i])) {
                return NOT;
            }
            if (i > from && spaces[space].end(items[i - 1]) != spaces[space].start(items[i])) {
                return NOT;
            }
            steps.add(items[i]);
        }
        return keep(slot, space, steps);
    }

    int about(int slot, int what) {
        if (slot < 0 || slot > 3 || what < 0 || what > 3) {
            return BAD;
        }
        Word word = slots[slot];
        return word == null ? NONE : new int[] {word.steps.size(), word.space, word.begin, word.end}[what];
    }

    int step(int slot, int i) {
        if (slot < 0 || slot > 3 || i < 0) {
            return BAD;
        }
        if (slots[slot] == null) {
            return NONE;
        }
        return i < slots[slot].steps.size() ? shown(slots[slot].steps.get(i)) : BAD;
    }

    static Set<List<Integer>> next(Sp sp, Word word) {
        Set<List<Integer>> all = new HashSet<>();
        for (int place = 0; place <= word.steps.size(); place++) {
            int corner = place == 0 ? word.begin : sp.end(word.steps.get(place - 1));
            for (List<Integer> rim : sp.rims) {
                List<Integer> back = new ArrayList<>();
                for (int step : rim) {
                    back.add(0, -step);
                }
                for (List<Integer> way : List.of(rim, back)) {
                    for (int first = 0; first < way.size(); first++) {
                        if (sp.start(way.get(first)) != corner) {
                            continue;
                        }
                        List<Integer> put = new ArrayList<>(word.steps.subList(0, place));
                        put.addAll(way.subList(first, way.size()));
                        put.addAll(way.subList(0, first));
                        put.addAll(word.steps.subList(place, word.steps.size()));
                        put = reduced(put);
                        if (put.size() <= 16) {
                            all.add(put);
                        }
                    }
                }
            }
        }
        return all;
    }

    int drawn(int a, int b) {
        if (a < 0 || a > 3 || b < 0 || b > 3) {
            return BAD;
        }
        Word one = slots[a];
        Word other = slots[b];
        if (one == null || other == null || one.space != other.space || one.begin != other.begin || one.end != other.end) {
            return NOT;
        }
        if (one.steps.equals(other.steps)) {
            return 0;
        }
        Set<List<Integer>> nextOne = next(spaces[one.space], one);
        Set<List<Integer>> nextOther = next(spaces[one.space], other);
        if (nextOne.contains(other.steps) || nextOther.contains(one.steps)) {
            return 1;
        }
        nextOne.retainAll(nextOther);
        return nextOne.isEmpty() ? SPENT : 2;
    }

    private static boolean in(int bits, int step) {
        return (bits >> Math.abs(step) - 1 & 1) == 1;
    }

    private static boolean isClass(Sp sp, int x) {
        for (List<Integer> rim : sp.rims) {
            if (rim.stream().filter(step -> in(x, step)).count() % 2 == 1) {
                return false;
            }
        }
        return true;
    }

    int product(int space, int x, int y) {
        if (!own(space)) {
            return BAD;
        }
        Sp sp = spaces[space];
        int bound = 1 << sp.edges.size();
        if (x < 0 || y < 0 || x >= bound || y >= bound) {
            return BAD;
        }
        if (!isClass(sp, x) || !isClass(sp, y)) {
            return NOT;
        }
        int bits = 0;
        for (int f = 0; f < sp.rims.size(); f++) {
            List<Integer> rim = sp.rims.get(f);
            int number = 0;
            for (int i = 0; i < rim.size(); i++) {
                for (int j = i + 1; j < rim.size(); j++) {
                    number += in(x, rim.get(i)) && in(y, rim.get(j)) ? 1 : 0;
                }
                number += rim.get(i) < 0 && in(x, rim.get(i)) && in(y, rim.get(i)) ? 1 : 0;
            }
            bits += number % 2 << f;
        }
        return bits;
    }

    int nought(int space, int faces) {
        if (!own(space) || faces < 0 || faces >= 1 << spaces[space].rims.size()) {
            return BAD;
        }
        Sp sp = spaces[space];
        for (int x = 0; x < 1 << sp.edges.size(); x++) {
            int odd = 0;
            for (int f = 0; f < sp.rims.size(); f++) {
                int times = 0;
                for (int step : sp.rims.get(f)) {
                    times += in(x, step) ? 1 : 0;
                }
                odd |= times % 2 << f;
            }
            if (odd == faces) {
                return 1;
            }
        }
        return 0;
    }

    int fold(int space) {
        if (!own(space)) {
            return BAD;
        }
        Sp sp = spaces[space];
        int gone = 0;
        for (int e = 0; e < sp.edges.size(); e++) {
            int number = e + 1;
            List<List<Integer>> having = new ArrayList<>();
            for (List<Integer> rim : sp.rims) {
                for (int step : rim) {
                    if (Math.abs(step) == number) {
                        having.add(rim);
                    }
                }
            }
            if (having.size() != 1) {
                continue;
            }
            sp.rims.removeIf(rim -> rim == having.get(0));
            sp.edges.remove(e);
            sp.rims.forEach(rim -> rim.replaceAll(step ->
                step > number ? step - 1 : step < -number ? step + 1 : step));
            gone++;
            e = -1;
        }
        empty(space);
        return gone;
    }

    int join() {
        Sp a = spaces[0];
        Sp b = spaces[1];
        if (a.corners + b.corners > 9 || a.edges.size() + b.edges.size() > 12 || a.rims.size() + b.rims.size() > 8) {
            return FULL;
        }
        int corners = a.corners;
        int edges = a.edges.size();
        for (int[] e : b.edges) {
            a.edges.add(new int[] {e[0] == 0 ? 0 : corners + e[0] - 1, e[1] == 0 ? 0 : corners + e[1] - 1});
        }
        for (List<Integer> rim : b.rims) {
            List<Integer> behind = new ArrayList<>();
            rim.forEach(step -> behind.add(step > 0 ? step + edges : step - edges));
            a.rims.add(behind);
        }
        a.corners = corners + b.corners - 1;
        empty(0);
        return a.corners;
    }

    // ---- 5

    private int row(int sheet, int lane) {
        if (sheet < 0 || sheet > 3 || lane < 0 || lane > 2) {
            return BAD;
        }
        return sheets[sheet] == null ? NULL : sheets[sheet].lane == lane ? 0 : CAST;
    }

    int sheet(int sheet, int lane, int n) {
        if (sheet < 0 || sheet > 3 || lane < 0 || lane > 2 || n > 20) {
            return BAD;
        }
        if (n < 0) {
            return SIZE;
        }
        sheets[sheet] = new Row();
        sheets[sheet].lane = lane;
        sheets[sheet].items = new int[n];
        return n;
    }

    int drop(int sheet) {
        if (sheet < 0 || sheet > 3) {
            return BAD;
        }
        if (sheets[sheet] == null) {
            return NULL;
        }
        int had = sheets[sheet].items.length;
        sheets[sheet] = null;
        return had;
    }

    int item(int sheet, int lane, int i, int v) {
        int refused = row(sheet, lane);
        if (refused != 0) {
            return refused;
        }
        if (i < 0 || i >= sheets[sheet].items.length) {
            return INDEX;
        }
        sheets[sheet].items[i] = lane == 0 ? (byte) v : lane == 1 ? (short) v : v;
        return 1;
    }
}
