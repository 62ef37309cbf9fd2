import java.util.ArrayList;
import java.util.List;
import java.util.Random;

/** Many runs of calls on a new object each, every answer against the model's. */
public final class RunsTest {
    private static final int[] ODD = {-1, 0, 1, 2, 3, 4, 5, 8, 12, 16, 20, 21, 100, -20,
        Integer.MAX_VALUE, Integer.MIN_VALUE, 1 << 30, -1000};

    private final Random random;
    private final Checks checks;
    private final LoopSpaces x = new LoopSpaces();
    private final Model m = new Model();
    private final List<String> log = new ArrayList<>();
    private int calls;

    private RunsTest(long seed, Checks checks) {
        this.random = new Random(seed);
        this.checks = checks;
    }

    public static void main(String[] args) {
        int runs = args.length > 1 ? Integer.parseInt(args[1]) : 600;
        Checks checks = new Checks();
        for (int seed = 0; seed < runs && checks.isClean(); seed++) {
            new RunsTest(seed, checks).run(seed);
        }
        checks.end("RunsTest");
    }

    private void run(int seed) {
        int length = 30 + random.nextInt(200);
        for (int s = 0; s < 2; s++) {
            type(randomText());
            due("text(" + s + ")", x.text(s), m.text(s));
        }
        for (int tries = random.nextInt(6); tries > 0 && m.cover == null; tries--) {
            layer();
        }
        while (calls < length && checks.isClean()) {
            call();
        }
        if (!checks.isClean()) {
            System.out.println("seed " + seed + ", the run:");
            log.forEach(System.out::println);
        }
    }

    private void due(String call, long got, long want) {
        calls++;
        log.add(call + " -> " + got);
        checks.same(call, got, want);
    }

    private int any(int from, int behind) {
        return random.nextInt(12) == 0 ? ODD[random.nextInt(ODD.length)] : from + random.nextInt(behind - from);
    }

    private int space() {
        return random.nextInt(25) == 0 ? any(-1, 4) : random.nextInt(2);
    }

    private int seen() {
        return random.nextInt(25) == 0 ? any(-1, 4) : random.nextInt(3);
    }

    private void type(String text) {
        int at = 0;
        while (at < text.length()) {
            int n = Math.min(random.nextInt(4) > 0 ? 8 : 1 + random.nextInt(8), text.length() - at);
            long w = Checks.packed(text.substring(at, at + n));
            if (n < 8 && random.nextBoolean()) {
                w |= random.nextLong() << 8 * n;
            }
            due("type(" + w + "L, " + n + ")", x.type(w, n), m.type(w, n));
            at += n;
        }
    }

    private void call() {
        switch (random.nextInt(24)) {
            case 0, 1 -> newText();
            case 2 -> build();
            case 3 -> face();
            case 4 -> counts();
            case 5 -> tellEdges();
            case 6 -> holes();
            case 7 -> bends();
            case 8 -> tables();
            case 9, 10 -> layer();
            case 11 -> lifts();
            case 12, 13, 14 -> words();
            case 15 -> walk();
            case 16 -> aboutSlots();
            case 17, 18 -> drawn();
            case 19 -> product();
            case 20 -> nought();
            case 21 -> foldOrJoin();
            case 22 -> sheets();
            default -> wild();
        }
    }

    private void newText() {
        type(spoilt(randomText()));
        int s = space();
        due("text(" + s + ")", x.text(s), m.text(s));
    }

    private String spoilt(String text) {
        StringBuilder spoilt = new StringBuilder(text);
        if (random.nextInt(4) == 0) {
            for (int k = random.nextInt(4); k > 0; k--) {
                spoilt.insert(random.nextInt(spoilt.length() + 1), ' ');
            }
        }
        if (random.nextInt(5) == 0 && spoilt.length() > 0) {
            String signs = " ;:=>0123456789abclmzABLMZ+~";
            char sign = signs.charAt(random.nextInt(signs.length()));
            int at = random.nextInt(spoilt.length());
            switch (random.nextInt(3)) {
                case 0 -> spoilt.setCharAt(at, sign);
                case 1 -> spoilt.insert(at, sign);
                default -> spoilt.deleteCharAt(at);
            }
        }
        return spoilt.toString();
    }

    private String randomText() {
        return random.nextInt(3) == 0 ? loopsText() : walksText();
    }

    /** One CORNER, few EDGES, RIMS with letters again and again: of these there are bends. */
    private String loopsText() {
        int edges = 1 + random.nextInt(4);
        StringBuilder text = new StringBuilder("1");
        for (int e = 0; e < edges; e++) {
            text.append(';').append((char) ('a' + e)).append("=0>0");
        }
        for (int f = random.nextInt(edges + 2); f > 0; f--) {
            StringBuilder rim = new StringBuilder();
            for (int k = random.nextInt(3); k >= 0; k--) {
                char letter = (char) ((random.nextBoolean() ? 'a' : 'A') + random.nextInt(edges));
                rim.append(String.valueOf(letter).repeat(1 + random.nextInt(4)));
            }
            text.append(";:").append(rim.substring(0, Math.min(8, rim.length())));
        }
        return text.toString();
    }

    private String walksText() {
        int corners = random.nextInt(3) > 0 ? 1 + random.nextInt(3) : 1 + random.nextInt(8);
        int edges = random.nextInt(3) > 0 ? 1 + random.nextInt(4) : random.nextInt(14);
        int panes = random.nextInt(3) > 0 ? random.nextInt(4) : random.nextInt(10);
        Model.Sp sp = new Model.Sp();
        sp.corners = corners;
        StringBuilder text = new StringBuilder().append(corners);
        for (int e = 0; e < edges; e++) {
            int from = random.nextInt(corners);
            int to = random.nextInt(corners);
            sp.edges.add(new int[] {from, to});
            text.append(';').append((char) ('a' + e)).append('=').append(from).append('>').append(to);
        }
        for (int f = 0; f < panes; f++) {
            String rim = letters(closedWalk(sp));
            if (!rim.isEmpty()) {
                text.append(";:").append(rim);
            }
        }
        return text.toString();
    }

    private static String letters(List<Integer> steps) {
        StringBuilder letters = new StringBuilder();
        for (int step : steps) {
            letters.append((char) (step > 0 ? 'a' + step - 1 : 'A' - step - 1));
        }
        return letters.toString();
    }

    private List<Integer> closedWalk(Model.Sp sp) {
        for (int tries = 0; tries < 20; tries++) {
            List<Integer> steps = walkFrom(sp, random.nextInt(sp.corners), 1 + random.nextInt(8));
            if (!steps.isEmpty() && sp.start(steps.get(0)) == sp.end(steps.get(steps.size() - 1))) {
                return steps;
            }
        }
        return List.of();
    }

    private List<Integer> walkFrom(Model.Sp sp, int corner, int length) {
        List<Integer> steps = new ArrayList<>();
        int here = corner;
        while (steps.size() < length) {
            List<Integer> ways = new ArrayList<>();
            for (int e = 1; e <= sp.edges.size(); e++) {
                if (sp.start(e) == here) {
                    ways.add(e);
                }
                if (sp.start(-e) == here) {
                    ways.add(-e);
                }
            }
            if (ways.isEmpty()) {
                return steps;
            }
            int step = ways.get(random.nextInt(ways.size()));
            steps.add(step);
            here = sp.end(step);
        }
        return steps;
    }

    private void build() {
        int s = space();
        int c = any(1, 5);
        if (random.nextInt(6) == 0) {
            due("corners(" + s + ", " + c + ")", x.corners(s, c), m.corners(s, c));
        }
        for (int k = random.nextInt(3); k >= 0; k--) {
            int corners = Model.own(s) ? m.spaces[s].corners : 2;
            int from = any(0, corners);
            int to = any(0, corners);
            due("edge(" + s + ", " + from + ", " + to + ")", x.edge(s, from, to), m.edge(s, from, to));
        }
    }

    private void face() {
        int s = space();
        if (Model.own(s)) {
            type(spoilt(letters(closedWalk(m.spaces[s]))));
        }
        due("face(" + s + ")", x.face(s), m.face(s));
    }

    private void counts() {
        int s = seen();
        for (int what = -1; what < 7; what++) {
            due("count(" + s + ", " + what + ")", x.count(s, what), m.count(s, what));
        }
        due("storeys(" + s + ")", x.storeys(s), m.storeys(s));
    }

    private void tellEdges() {
        int s = seen();
        int edges = Math.max(1, m.count(s, 1));
        int panes = Math.max(1, m.count(s, 2));
        for (int k = 0; k < 4; k++) {
            int e = any(0, edges);
            int what = any(0, 3);
            due("told(" + s + ", " + e + ", " + what + ")", x.told(s, e, what), m.told(s, e, what));
            int f = any(0, panes);
            int i = any(0, 9);
            due("rim(" + s + ", " + f + ", " + i + ")", x.rim(s, f, i), m.rim(s, f, i));
        }
    }

    private void holes() {
        int s = seen();
        for (int d = 0; d < 3; d++) {
            int p = random.nextInt(6) == 0 ? any(-1, 12) : new int[] {0, 2, 3, 5, 7}[random.nextInt(5)];
            due("holes(" + s + ", " + d + ", " + p + ")", x.holes(s, d, p), m.holes(s, d, p));
        }
        int d = any(-1, 4);
        due("holes(" + s + ", " + d + ", 2)", x.holes(s, d, 2), m.holes(s, d, 2));
    }

    private void bends() {
        int s = space();
        int i = any(0, 3);
        due("bend(" + s + ", " + i + ")", x.bend(s, i), m.bend(s, i));
    }

    private void tables() {
        int s = space();
        int n = any(2, 5);
        due("tables(" + s + ", " + n + ")", x.tables(s, n), m.tables(s, n));
        due("layers(" + s + ", " + n + ")", x.layers(s, n), m.layers(s, n));
    }

    private void layer() {
        int s = space();
        int n = any(2, 5);
        int i = any(0, random.nextBoolean() ? 2 : 12);
        int laid = m.layer(s, n, i);
        due("layer(" + s + ", " + n + ", " + i + ")", x.layer(s, n, i), laid);
        if (laid >= 0) {
            lookAtLayer();
        }
    }

    private void lookAtLayer() {
        for (int k = 0; k < 6; k++) {
            moves();
            int e = random.nextInt(m.cover.edges.size());
            due("told(2, " + e + ", 1)", x.told(2, e, 1), m.told(2, e, 1));
            due("told(2, " + e + ", 2)", x.told(2, e, 2), m.told(2, e, 2));
            int f = random.nextInt(m.cover.rims.size() + 1);
            int i = random.nextInt(4);
            due("rim(2, " + f + ", " + i + ")", x.rim(2, f, i), m.rim(2, f, i));
        }
        int d = random.nextInt(3);
        due("holes(2, " + d + ", 3)", x.holes(2, d, 3), m.holes(2, d, 3));
    }

    private void moves() {
        int turn = any(0, m.cover == null ? 4 : Math.max(1, m.coverTable.size()));
        int storey = any(0, m.cover == null ? 4 : m.coverStoreys);
        due("moves(" + turn + ", " + storey + ")", x.moves(turn, storey), m.moves(turn, storey));
    }

    private void lifts() {
        int slot = any(0, 4);
        int storey = any(0, m.cover == null ? 4 : m.coverStoreys);
        due("lift(" + slot + ", " + storey + ")", x.lift(slot, storey), m.lift(slot, storey));
        due("moved(" + slot + ")", x.moved(slot), m.moved(slot));
    }

    private void words() {
        int slot = any(0, 4);
        int s = m.cover != null && random.nextBoolean() ? m.coverOver : space();
        if (Model.own(s)) {
            int begin = random.nextInt(3) > 0 ? 0 : random.nextInt(m.spaces[s].corners);
            type(spoilt(letters(walkFrom(m.spaces[s], begin, random.nextInt(18)))));
        }
        due("word(" + slot + ", " + s + ")", x.word(slot, s), m.word(slot, s));
        int storey = any(0, m.cover == null ? 3 : m.coverStoreys);
        due("lift(" + slot + ", " + storey + ")", x.lift(slot, storey), m.lift(slot, storey));
        due("moved(" + slot + ")", x.moved(slot), m.moved(slot));
    }

    private void walk() {
        int sheet = any(0, 4);
        int lane = any(0, 3);
        int n = any(0, 17);
        due("sheet(" + sheet + ", " + lane + ", " + n + ")", x.sheet(sheet, lane, n), m.sheet(sheet, lane, n));
        int s = space();
        List<Integer> steps = Model.own(s) ? walkFrom(m.spaces[s], 0, 16) : List.of();
        for (int i = 0; i < steps.size() && i < n; i++) {
            int v = random.nextInt(20) == 0 ? any(-14, 14) : steps.get(i);
            due("item(" + sheet + ", " + lane + ", " + i + ", " + v + ")", x.item(sheet, lane, i, v), m.item(sheet, lane, i, v));
        }
        int slot = any(0, 4);
        int from = random.nextBoolean() ? 0 : any(-1, 5);
        int taken = random.nextBoolean() ? any(0, 17) : Math.max(0, n - Math.max(0, Math.min(from, n)));
        int other = random.nextInt(10) == 0 ? any(0, 3) : lane;
        due("walk(" + slot + ", " + s + ", " + sheet + ", " + other + ", " + from + ", " + taken + ")",
            x.walk(slot, s, sheet, other, from, taken), m.walk(slot, s, sheet, other, from, taken));
    }

    private void aboutSlots() {
        int slot = any(0, 4);
        for (int what = -1; what < 5; what++) {
            due("about(" + slot + ", " + what + ")", x.about(slot, what), m.about(slot, what));
        }
        for (int k = 0; k < 4; k++) {
            int i = any(0, 16);
            due("step(" + slot + ", " + i + ")", x.step(slot, i), m.step(slot, i));
        }
    }

    /** Words of like ends, that a few rims may lie between. */
    private void drawn() {
        int a = any(0, 4);
        int b = any(0, 4);
        if (a >= 0 && a < 4 && m.slots[a] == null) {
            int s = random.nextInt(2);
            type(letters(walkFrom(m.spaces[s], 0, random.nextInt(8))));
            due("word(" + a + ", " + s + ")", x.word(a, s), m.word(a, s));
        }
        if (random.nextInt(6) > 0 && a >= 0 && a < 4 && m.slots[a] != null) {
            int s = m.slots[a].space;
            type(letters(random.nextBoolean() ? drawnFrom(m.slots[a]) : likeEnds(m.slots[a])));
            due("word(" + b + ", " + s + ")", x.word(b, s), m.word(b, s));
        }
        due("drawn(" + a + ", " + b + ")", x.drawn(a, b), m.drawn(a, b));
        due("drawn(" + b + ", " + a + ")", x.drawn(b, a), m.drawn(b, a));
    }

    private List<Integer> drawnFrom(Model.Word word) {
        Model.Word drawn = word;
        for (int k = random.nextInt(4); k > 0; k--) {
            List<List<Integer>> next = new ArrayList<>(Model.next(m.spaces[word.space], drawn));
            if (!next.isEmpty()) {
                drawn = new Model.Word();
                drawn.begin = word.begin;
                drawn.end = word.end;
                drawn.steps = next.get(random.nextInt(next.size()));
            }
        }
        return drawn.steps;
    }

    private List<Integer> likeEnds(Model.Word word) {
        Model.Sp sp = m.spaces[word.space];
        for (int tries = 0; tries < 20; tries++) {
            List<Integer> steps = walkFrom(sp, word.begin, 1 + random.nextInt(6));
            if (!steps.isEmpty() && sp.end(steps.get(steps.size() - 1)) == word.end) {
                return steps;
            }
        }
        return word.steps;
    }

    private void product() {
        int s = space();
        int bound = Model.own(s) ? 1 << m.spaces[s].edges.size() : 2;
        for (int k = 0; k < 6; k++) {
            int a = any(0, bound + (random.nextInt(8) == 0 ? 1 : 0));
            int b = random.nextBoolean() ? a : any(0, bound);
            due("product(" + s + ", " + a + ", " + b + ")", x.product(s, a, b), m.product(s, a, b));
        }
    }

    private void nought() {
        int s = space();
        int bound = Model.own(s) ? 1 << m.spaces[s].rims.size() : 2;
        for (int k = 0; k < 3; k++) {
            int faces = any(0, bound + (random.nextInt(8) == 0 ? 1 : 0));
            due("nought(" + s + ", " + faces + ")", x.nought(s, faces), m.nought(s, faces));
        }
    }

    private void foldOrJoin() {
        if (random.nextBoolean()) {
            due("join()", x.join(), m.join());
        } else {
            int s = space();
            due("fold(" + s + ")", x.fold(s), m.fold(s));
        }
    }

    private void sheets() {
        int sheet = any(0, 4);
        int i = any(0, 20);
        int lane = any(0, 3);
        int v = random.nextInt();
        due("item(" + sheet + ", " + lane + ", " + i + ", " + v + ")", x.item(sheet, lane, i, v), m.item(sheet, lane, i, v));
        if (random.nextInt(3) == 0) {
            due("drop(" + sheet + ")", x.drop(sheet), m.drop(sheet));
        }
    }

    /** Bytes that no text needs, and texts that come to the end of the tape. */
    private void wild() {
        long w = random.nextLong();
        int n = any(1, 9);
        due("type(" + w + "L, " + n + ")", x.type(w, n), m.type(w, n));
        if (random.nextInt(6) == 0) {
            type("1;a=0>0;b=0>0;c=0>0;d=0>0;e=0>0;f=0>0;g=0>0;h=0>0;i=0>0;j=0>0;k=0>0;l=0>0");
            type(";:aB;:bC;:cD;:dE;:eF;:fG;:gH;:" + "h".repeat(1 + random.nextInt(20)));
        }
        int s = space();
        due("text(" + s + ")", x.text(s), m.text(s));
        type(spoilt(fullText() + soup()));
        due("text(" + s + ")", x.text(s), m.text(s));
    }

    /** All the EDGES, all the PANES, both, or nearly so. */
    private String fullText() {
        int edges = random.nextInt(4) == 0 ? 1 + random.nextInt(12) : 12;
        int panes = random.nextInt(4) == 0 ? random.nextInt(9) : 8;
        StringBuilder text = new StringBuilder("1");
        for (int e = 0; e < edges; e++) {
            text.append(';').append((char) ('a' + e)).append("=0>0");
        }
        for (int f = 0; f < panes; f++) {
            text.append(";:").append((char) ((random.nextBoolean() ? 'a' : 'A') + random.nextInt(edges)));
        }
        return text.toString();
    }

    /** Signs of texts in no order, with blanks among them. */
    private String soup() {
        String signs = "   ;;:a=0>Ml1x";
        StringBuilder soup = new StringBuilder(random.nextInt(3) == 0 ? "" : ";");
        for (int k = random.nextInt(8); k > 0; k--) {
            soup.append(signs.charAt(random.nextInt(signs.length())));
        }
        return soup.toString();
    }
}
