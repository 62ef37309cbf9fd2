import java.util.Arrays;

/**
 * Spaces glued from corners, edges and panes, with their holes, bends, layers, words and classes.
 *
 * <p>Inside, a STEP is one number: twice its EDGE, and 1 if it is gone back, so that a STEP and
 * its back differ in the lowest bit alone. Every row is made with the object and used again.
 */
public final class LoopSpaces {
    public static final int BAD = -1, NOT = -2, FULL = -3, NONE = -4, SPENT = -5, NULL = -11, CAST = -12, INDEX = -13, SIZE = -14;

    private static final int MOST_CORNERS = 8;
    private static final int MOST_EDGES = 12;
    private static final int MOST_PANES = 8;
    private static final int MOST_RIM = 8;
    private static final int MOST_WORD = 16;
    private static final int LEAST_STOREYS = 2;
    private static final int MOST_STOREYS = 4;
    private static final int MOST_TABLES = 20000;
    private static final int MOST_TAPE = 120;
    private static final int MOST_TYPED = 8;
    private static final int MOST_ITEMS = 20;
    private static final int SLOTS = 4;
    private static final int SHEETS = 4;
    private static final int LANES = 3;
    private static final int LAYER = 2;
    private static final int FAULT = -20;
    private static final int COUNT_BAD = BAD - 1000;
    private static final int GONE_BACK = 100;

    /** What an EDGE is that is no TURN: of THE TREE, or not of THE PART. */
    private static final int TREE = -1, APART = -2;
    private static final int NOTHING = -1;
    /** No loop of a run comes near this many rounds. */
    private static final int GUARD = 1000000;

    private final Space[] spaces = new Space[2];
    private final Layer layer = new Layer();
    private final Trail[] slots = new Trail[SLOTS];
    private final Sheet[] sheets = new Sheet[SHEETS];
    private final Shuffles[] shuffles = new Shuffles[MOST_STOREYS + 1];
    private final Tape tape = new Tape();
    private final Trail pen = new Trail();
    private final Rows rows = new Rows();
    private final Tables search = new Tables();
    private final Drawer drawer = new Drawer();
    /** A text is read into this one, so that a FAULT leaves the SPACE as it was. */
    private Space draft = new Space(MOST_CORNERS, MOST_EDGES, MOST_PANES);

    public LoopSpaces() {
        for (int s = 0; s < spaces.length; s++) {
            spaces[s] = new Space(MOST_CORNERS, MOST_EDGES, MOST_PANES);
        }
        for (int s = 0; s < SLOTS; s++) {
            slots[s] = new Trail();
        }
        for (int s = 0; s < SHEETS; s++) {
            sheets[s] = new Sheet();
        }
        for (int n = LEAST_STOREYS; n <= MOST_STOREYS; n++) {
            shuffles[n] = new Shuffles(n);
        }
    }

    // ---- 1 spaces

    public int corners(int space, int c) {
        if (!isOwn(space) || c < 1 || c > MOST_CORNERS) {
            return BAD;
        }
        int before = spaces[space].corners;
        spaces[space].clear(c);
        spaces[space].findPart();
        emptySlots(space);
        return before;
    }

    public int edge(int space, int from, int to) {
        if (!isOwn(space)) {
            return BAD;
        }
        Space own = spaces[space];
        if (!own.hasCorner(from) || !own.hasCorner(to)) {
            return BAD;
        }
        if (own.edges >= MOST_EDGES) {
            return FULL;
        }
        own.addEdge(from, to);
        own.findPart();
        return own.edges - 1;
    }

    public int type(long w, int n) {
        if (n < 1 || n > MOST_TYPED || !isPrintable(w, n)) {
            return BAD;
        }
        if (tape.length + n > MOST_TAPE) {
            return FULL;
        }
        for (int i = n - 1; i >= 0; i--) {
            tape.put(byteOf(w, i));
        }
        return tape.length;
    }

    public int face(int space) {
        if (!isOwn(space)) {
            return BAD;
        }
        Space own = spaces[space];
        tape.rewind();
        boolean read = tape.readRim(own, pen) && tape.isRead();
        int fault = tape.faultHere();
        tape.wipe();
        if (!read) {
            return fault;
        }
        if (own.panes >= MOST_PANES) {
            return FULL;
        }
        own.addPane(pen.steps, pen.count);
        return own.panes - 1;
    }

    public int text(int space) {
        if (!isOwn(space)) {
            return BAD;
        }
        tape.rewind();
        boolean read = tape.readSpace(draft, pen);
        int fault = tape.faultHere();
        tape.wipe();
        if (!read) {
            return fault;
        }
        Space before = spaces[space];
        spaces[space] = draft;
        draft = before;
        spaces[space].findPart();
        emptySlots(space);
        return spaces[space].panes;
    }

    public int count(int space, int what) {
        Space seen = seenSpace(space);
        if (seen == null) {
            return COUNT_BAD;
        }
        switch (what) {
            case 0:
                return seen.corners;
            case 1:
                return seen.edges;
            case 2:
                return seen.panes;
            case 3:
                return seen.corners - seen.edges + seen.panes;
            case 4:
                return seen.partCorners;
            case 5:
                return seen.turns;
            default:
                return COUNT_BAD;
        }
    }

    public int told(int space, int edge, int what) {
        Space seen = seenSpace(space);
        if (seen == null || edge < 0 || edge >= seen.edges) {
            return BAD;
        }
        switch (what) {
            case 0:
                return seen.from[edge];
            case 1:
                return seen.to[edge];
            case 2:
                return seen.ways[edge] == TREE ? 1 : 0;
            default:
                return BAD;
        }
    }

    public int rim(int space, int face, int i) {
        Space seen = seenSpace(space);
        if (seen == null || face < 0 || face >= seen.panes || i < 0 || i >= seen.lengths[face]) {
            return BAD;
        }
        return toldStep(seen.rimStep(face, i));
    }

    // ---- 2 holes

    public int holes(int space, int dimension, int p) {
        Space seen = seenSpace(space);
        if (seen == null || dimension < 0 || dimension > 2 || !isModulus(p) || (p == 0 && space == LAYER)) {
            return BAD;
        }
        if (dimension == 0) {
            return seen.corners - rows.rankOfEdges(seen, p);
        }
        int filled = rows.rankOfPanes(seen, p);
        if (dimension == 2) {
            return seen.panes - filled;
        }
        return seen.edges - rows.rankOfEdges(seen, p) - filled;
    }

    public long bend(int space, int i) {
        if (!isOwn(space) || i < 0) {
            return BAD;
        }
        int known = rows.findFactors(spaces[space]);
        int above = 0;
        for (int k = 0; k < known; k++) {
            if (rows.factors[k] > 1) {
                if (above == i) {
                    return rows.factors[k];
                }
                above++;
            }
        }
        return NONE;
    }

    // ---- 3 layers

    public int tables(int space, int n) {
        if (!isOwn(space) || !isStoreys(n)) {
            return BAD;
        }
        if (search.isMany(spaces[space], shuffles[n])) {
            return NOT;
        }
        search.begin(spaces[space], shuffles[n]);
        int held = 0;
        while (held <= MOST_TABLES && search.findNext(false)) {
            held++;
        }
        return held;
    }

    public int layers(int space, int n) {
        if (!isOwn(space) || !isStoreys(n)) {
            return BAD;
        }
        if (search.isMany(spaces[space], shuffles[n])) {
            return NOT;
        }
        search.begin(spaces[space], shuffles[n]);
        int laid = 0;
        while (laid <= MOST_TABLES && search.findNextLayer()) {
            laid++;
        }
        return laid;
    }

    public int layer(int space, int n, int i) {
        if (!isOwn(space) || !isStoreys(n) || i < 0) {
            return BAD;
        }
        if (search.isMany(spaces[space], shuffles[n])) {
            return NOT;
        }
        search.begin(spaces[space], shuffles[n]);
        if (!search.findLayer(i)) {
            return BAD;
        }
        layer.lay(spaces[space], space, search);
        return layer.space.turns;
    }

    public int storeys(int space) {
        if (isOwn(space)) {
            return CAST;
        }
        if (space != LAYER || !layer.isLaid()) {
            return BAD;
        }
        return layer.shuffles.storeys;
    }

    public int moves(int turn, int storey) {
        if (!layer.isLaid()) {
            return NONE;
        }
        if (turn < 0 || turn >= layer.turns || !layer.hasStorey(storey)) {
            return BAD;
        }
        return layer.shuffles.move(layer.table[turn], storey);
    }

    public int lift(int slot, int storey) {
        if (!layer.isLaid()) {
            return NONE;
        }
        if (!isSlot(slot) || !layer.hasStorey(storey)) {
            return BAD;
        }
        Trail held = slots[slot];
        if (held.space != layer.over || held.begin != 0 || !layer.knows(held)) {
            return NOT;
        }
        int reached = storey;
        for (int i = 0; i < held.count; i++) {
            reached = layer.moveByStep(held.steps[i], reached);
        }
        return reached;
    }

    public int moved(int slot) {
        if (!isSlot(slot)) {
            return BAD;
        }
        Trail held = slots[slot];
        if (!isOwn(held.space) || held.begin != 0 || held.end != 0) {
            return NOT;
        }
        Space own = spaces[held.space];
        for (int n = LEAST_STOREYS; n <= MOST_STOREYS; n++) {
            if (!search.isMany(own, shuffles[n]) && search.isMovedBySome(own, shuffles[n], held)) {
                return n;
            }
        }
        return NONE;
    }

    // ---- 4 words, classes

    public int word(int slot, int space) {
        if (!isSlot(slot) || !isOwn(space)) {
            return BAD;
        }
        tape.rewind();
        tape.readSteps(spaces[space], pen, MOST_WORD);
        boolean read = tape.isRead();
        int fault = tape.faultHere();
        tape.wipe();
        if (!read) {
            return fault;
        }
        return keepReduced(slot, space);
    }

    public int walk(int slot, int space, int sheet, int lane, int from, int n) {
        if (!isSlot(slot) || !isOwn(space) || n < 0 || n > MOST_WORD) {
            return BAD;
        }
        int refused = refuseRow(sheet, lane);
        if (refused != 0) {
            return refused;
        }
        Sheet row = sheets[sheet];
        if (from < 0 || from > row.size - n) {
            return INDEX;
        }
        pen.clear();
        for (int i = 0; i < n; i++) {
            int step = stepOfItem(row.items[from + i], spaces[space].edges);
            if (step == NOTHING || !pen.goOn(spaces[space], step)) {
                return NOT;
            }
        }
        return keepReduced(slot, space);
    }

    public int about(int slot, int what) {
        if (!isSlot(slot) || what < 0 || what > 3) {
            return BAD;
        }
        Trail held = slots[slot];
        if (held.space == NOTHING) {
            return NONE;
        }
        switch (what) {
            case 0:
                return held.count;
            case 1:
                return held.space;
            case 2:
                return held.begin;
            default:
                return held.end;
        }
    }

    public int step(int slot, int i) {
        if (!isSlot(slot) || i < 0) {
            return BAD;
        }
        Trail held = slots[slot];
        if (held.space == NOTHING) {
            return NONE;
        }
        if (i >= held.count) {
            return BAD;
        }
        return toldStep(held.steps[i]);
    }

    public int drawn(int a, int b) {
        if (!isSlot(a) || !isSlot(b)) {
            return BAD;
        }
        Trail one = slots[a];
        Trail other = slots[b];
        if (!isOwn(one.space) || one.space != other.space || one.begin != other.begin || one.end != other.end) {
            return NOT;
        }
        return drawer.findApart(spaces[one.space], one, other);
    }

    public int product(int space, int x, int y) {
        if (!isOwn(space)) {
            return BAD;
        }
        Space own = spaces[space];
        if (!areBits(x, own.edges) || !areBits(y, own.edges)) {
            return BAD;
        }
        if (!own.isClass(x) || !own.isClass(y)) {
            return NOT;
        }
        int odd = 0;
        for (int pane = 0; pane < own.panes; pane++) {
            odd |= own.multiply(pane, x, y) << pane;
        }
        return odd;
    }

    public int nought(int space, int faces) {
        if (!isOwn(space) || !areBits(faces, spaces[space].panes)) {
            return BAD;
        }
        return rows.isSumOfEdges(spaces[space], faces) ? 1 : 0;
    }

    public int fold(int space) {
        if (!isOwn(space)) {
            return BAD;
        }
        int gone = spaces[space].collapse();
        spaces[space].findPart();
        emptySlots(space);
        return gone;
    }

    public int join() {
        Space first = spaces[0];
        Space second = spaces[1];
        if (first.corners + second.corners - 1 > MOST_CORNERS
                || first.edges + second.edges > MOST_EDGES
                || first.panes + second.panes > MOST_PANES) {
            return FULL;
        }
        first.takeIn(second);
        first.findPart();
        emptySlots(0);
        return first.corners;
    }

    // ---- 5 sheets of rows 0 .. 3: nothing (at first), or a row of a LANE: 0 bytes, 1 shorts, 2 ints, of 0 to 20 items

    public int sheet(int sheet, int lane, int n) {
        if (!isSheet(sheet) || !isLane(lane) || n > MOST_ITEMS) {
            return BAD;
        }
        if (n < 0) {
            return SIZE;
        }
        sheets[sheet].renew(lane, n);
        return n;
    }

    public int drop(int sheet) {
        if (!isSheet(sheet)) {
            return BAD;
        }
        if (sheets[sheet].lane == NOTHING) {
            return NULL;
        }
        int had = sheets[sheet].size;
        sheets[sheet].renew(NOTHING, 0);
        return had;
    }

    public int item(int sheet, int lane, int i, int v) {
        int refused = refuseRow(sheet, lane);
        if (refused != 0) {
            return refused;
        }
        Sheet row = sheets[sheet];
        if (i < 0 || i >= row.size) {
            return INDEX;
        }
        row.put(i, v);
        return 1;
    }

    // ---- what the calls share

    private static boolean isOwn(int space) {
        return space == 0 || space == 1;
    }

    private static boolean isSlot(int slot) {
        return slot >= 0 && slot < SLOTS;
    }

    private static boolean isSheet(int sheet) {
        return sheet >= 0 && sheet < SHEETS;
    }

    private static boolean isLane(int lane) {
        return lane >= 0 && lane < LANES;
    }

    private static boolean isStoreys(int n) {
        return n >= LEAST_STOREYS && n <= MOST_STOREYS;
    }

    private static boolean isModulus(int p) {
        return p == 0 || p == 2 || p == 3 || p == 5 || p == 7;
    }

    private static boolean areBits(int bits, int places) {
        return bits >= 0 && bits < 1 << places;
    }

    private static int byteOf(long w, int i) {
        return (int) (w >>> (8 * i)) & 255;
    }

    private static boolean isPrintable(long w, int n) {
        for (int i = 0; i < n; i++) {
            int sign = byteOf(w, i);
            if (sign < 32 || sign > 126) {
                return false;
            }
        }
        return true;
    }

    private static int toldStep(int step) {
        return (step >> 1) + ((step & 1) == 1 ? GONE_BACK : 0);
    }

    private static int stepOfItem(int value, int edges) {
        // -1 - value, as -value of the least int is no edge's number but below 0 again
        int edge = value > 0 ? value - 1 : -1 - value;
        if (value == 0 || edge >= edges) {
            return NOTHING;
        }
        return 2 * edge + (value < 0 ? 1 : 0);
    }

    /** SPACE 0 or 1, or THE LAYER; null if there is none such. */
    private Space seenSpace(int space) {
        if (isOwn(space)) {
            return spaces[space];
        }
        return space == LAYER && layer.isLaid() ? layer.space : null;
    }

    private int refuseRow(int sheet, int lane) {
        if (!isSheet(sheet) || !isLane(lane)) {
            return BAD;
        }
        if (sheets[sheet].lane == NOTHING) {
            return NULL;
        }
        return sheets[sheet].lane == lane ? 0 : CAST;
    }

    private int keepReduced(int slot, int space) {
        slots[slot].takeReduced(pen);
        slots[slot].space = space;
        return slots[slot].count;
    }

    private void emptySlots(int space) {
        for (int s = 0; s < SLOTS; s++) {
            if (slots[s].space == space) {
                slots[s].space = NOTHING;
            }
        }
    }

    /** CORNERS, EDGES and PANES, with THE PART and THE TREE. */
    private static final class Space {
        final int[] from;
        final int[] to;
        /** Of each EDGE the number of its TURN, or TREE, or APART. */
        final int[] ways;
        final boolean[] isReached;
        /** MOST_RIM places for each PANE. */
        final int[] rims;
        final int[] lengths;
        int corners;
        int edges;
        int panes;
        int partCorners;
        int turns;

        Space(int cornerRoom, int edgeRoom, int paneRoom) {
            from = new int[edgeRoom];
            to = new int[edgeRoom];
            ways = new int[edgeRoom];
            isReached = new boolean[cornerRoom];
            rims = new int[paneRoom * MOST_RIM];
            lengths = new int[paneRoom];
            clear(1);
            findPart();
        }

        void clear(int newCorners) {
            corners = Math.min(newCorners, isReached.length);
            edges = 0;
            panes = 0;
        }

        boolean hasCorner(int corner) {
            return corner >= 0 && corner < corners;
        }

        void addEdge(int start, int finish) {
            if (edges < from.length) {
                from[edges] = start;
                to[edges] = finish;
                edges++;
            }
        }

        void addPane(int[] steps, int length) {
            if (panes < lengths.length && length <= MOST_RIM) {
                System.arraycopy(steps, 0, rims, panes * MOST_RIM, length);
                lengths[panes] = length;
                panes++;
            }
        }

        int rimStep(int pane, int i) {
            return rims[pane * MOST_RIM + i];
        }

        int startOf(int step) {
            return (step & 1) == 0 ? from[step >> 1] : to[step >> 1];
        }

        int endOf(int step) {
            return (step & 1) == 0 ? to[step >> 1] : from[step >> 1];
        }

        boolean isPaneOfPart(int pane) {
            return isReached[startOf(rimStep(pane, 0))];
        }

        void findPart() {
            for (int c = 0; c < corners; c++) {
                isReached[c] = c == 0;
            }
            for (int e = 0; e < edges; e++) {
                ways[e] = APART;
            }
            partCorners = 1;
            int taken = leastLeadingOut();
            while (partCorners < corners && taken != NOTHING) {
                ways[taken] = TREE;
                isReached[from[taken]] = true;
                isReached[to[taken]] = true;
                partCorners++;
                taken = leastLeadingOut();
            }
            numberTurns();
        }

        private int leastLeadingOut() {
            for (int e = 0; e < edges; e++) {
                if (isReached[from[e]] != isReached[to[e]]) {
                    return e;
                }
            }
            return NOTHING;
        }

        private void numberTurns() {
            turns = 0;
            for (int e = 0; e < edges; e++) {
                if (ways[e] != TREE && isReached[from[e]]) {
                    ways[e] = turns;
                    turns++;
                }
            }
        }

        boolean isClass(int bits) {
            for (int pane = 0; pane < panes; pane++) {
                int odd = 0;
                for (int i = 0; i < lengths[pane]; i++) {
                    odd ^= bits >> (rimStep(pane, i) >> 1) & 1;
                }
                if (odd == 1) {
                    return false;
                }
            }
            return true;
        }

        /** PANES whose RIMS go an odd number of times by an EDGE, as bits. */
        int oddPanes(int edge) {
            int odd = 0;
            for (int pane = 0; pane < panes; pane++) {
                odd |= (stepsBy(pane, edge) & 1) << pane;
            }
            return odd;
        }

        int multiply(int pane, int x, int y) {
            int ahead = 0;
            int odd = 0;
            for (int i = 0; i < lengths[pane]; i++) {
                int step = rimStep(pane, i);
                int inX = x >> (step >> 1) & 1;
                int inY = y >> (step >> 1) & 1;
                odd ^= (ahead & inY) ^ (step & inX & inY);
                ahead ^= inX;
            }
            return odd;
        }

        int collapse() {
            int gone = 0;
            int free = leastFreeEdge();
            while (gone < MOST_PANES && free != NOTHING) {
                removePane(paneBy(free));
                removeEdge(free);
                gone++;
                free = leastFreeEdge();
            }
            return gone;
        }

        private int leastFreeEdge() {
            for (int e = 0; e < edges; e++) {
                int steps = 0;
                for (int pane = 0; pane < panes; pane++) {
                    steps += stepsBy(pane, e);
                }
                if (steps == 1) {
                    return e;
                }
            }
            return NOTHING;
        }

        private int stepsBy(int pane, int edge) {
            int steps = 0;
            for (int i = 0; i < lengths[pane]; i++) {
                if (rimStep(pane, i) >> 1 == edge) {
                    steps++;
                }
            }
            return steps;
        }

        private int paneBy(int edge) {
            int found = 0;
            while (found < panes - 1 && stepsBy(found, edge) == 0) {
                found++;
            }
            return found;
        }

        private void removePane(int pane) {
            int behind = panes - pane - 1;
            System.arraycopy(rims, (pane + 1) * MOST_RIM, rims, pane * MOST_RIM, behind * MOST_RIM);
            System.arraycopy(lengths, pane + 1, lengths, pane, behind);
            panes--;
        }

        private void removeEdge(int edge) {
            int behind = edges - edge - 1;
            System.arraycopy(from, edge + 1, from, edge, behind);
            System.arraycopy(to, edge + 1, to, edge, behind);
            edges--;
            for (int pane = 0; pane < panes; pane++) {
                for (int i = pane * MOST_RIM; i < pane * MOST_RIM + lengths[pane]; i++) {
                    if (rims[i] >> 1 > edge) {
                        rims[i] -= 2;
                    }
                }
            }
        }

        /** Joins another one at CORNERS 0; that there is room has been looked at. */
        void takeIn(Space other) {
            int cornersBefore = corners;
            int edgesBefore = edges;
            corners += other.corners - 1;
            for (int e = 0; e < other.edges; e++) {
                addEdge(joined(other.from[e], cornersBefore), joined(other.to[e], cornersBefore));
            }
            for (int pane = 0; pane < other.panes; pane++) {
                int at = panes * MOST_RIM;
                for (int i = 0; i < other.lengths[pane]; i++) {
                    rims[at + i] = other.rimStep(pane, i) + 2 * edgesBefore;
                }
                lengths[panes] = other.lengths[pane];
                panes++;
            }
        }

        private static int joined(int corner, int cornersBefore) {
            return corner == 0 ? 0 : cornersBefore + corner - 1;
        }
    }

    /** A row of STEPS with its ends; in a SLOT also the SPACE that it is of. */
    private static final class Trail {
        final int[] steps = new int[MOST_WORD];
        int space = NOTHING;
        int count;
        int begin;
        int end;

        void clear() {
            count = 0;
            begin = 0;
            end = 0;
        }

        /** Adds a STEP, if there is room and it is from where the one ahead leads to. */
        boolean goOn(Space on, int step) {
            if (count >= MOST_WORD || (count > 0 && on.startOf(step) != end)) {
                return false;
            }
            if (count == 0) {
                begin = on.startOf(step);
            }
            steps[count] = step;
            count++;
            end = on.endOf(step);
            return true;
        }

        boolean isRim() {
            return count > 0 && begin == end;
        }

        void takeReduced(Trail whole) {
            count = 0;
            begin = whole.begin;
            end = whole.end;
            for (int i = 0; i < whole.count; i++) {
                if (count > 0 && steps[count - 1] == (whole.steps[i] ^ 1)) {
                    count--;
                } else {
                    steps[count] = whole.steps[i];
                    count++;
                }
            }
        }
    }

    /** THE TAPE and the reading of it; a reading that fails leaves off at what can't stand there. */
    private static final class Tape {
        private static final int END = -1;

        final char[] signs = new char[MOST_TAPE];
        int length;
        private int place;

        void put(int sign) {
            if (length < MOST_TAPE) {
                signs[length] = (char) sign;
                length++;
            }
        }

        void rewind() {
            place = 0;
        }

        void wipe() {
            length = 0;
        }

        /** The sign behind blanks, or END. */
        private int look() {
            while (place < length && signs[place] == ' ') {
                place++;
            }
            return place < length ? signs[place] : END;
        }

        private boolean pass(char sign) {
            if (look() != sign) {
                return false;
            }
            place++;
            return true;
        }

        boolean isRead() {
            return look() == END;
        }

        /** The FAULT at the first sign that was not read, whether a reading has passed the blanks or not. */
        int faultHere() {
            look();
            return FAULT - place;
        }

        boolean readSpace(Space space, Trail pen) {
            int corners = readNumber(1, MOST_CORNERS);
            if (corners == NOTHING) {
                return false;
            }
            space.clear(corners);
            for (int clause = 0; clause < MOST_TAPE && pass(';'); clause++) {
                if (!readClause(space, pen)) {
                    return false;
                }
            }
            return isRead();
        }

        private boolean readClause(Space space, Trail pen) {
            if (space.panes < MOST_PANES && pass(':')) {
                if (!readRim(space, pen)) {
                    return false;
                }
                space.addPane(pen.steps, pen.count);
                return true;
            }
            return space.edges < MOST_EDGES && pass((char) ('a' + space.edges)) && readEdge(space);
        }

        private boolean readEdge(Space space) {
            if (!pass('=')) {
                return false;
            }
            int start = readNumber(0, space.corners - 1);
            if (start == NOTHING || !pass('>')) {
                return false;
            }
            int finish = readNumber(0, space.corners - 1);
            if (finish == NOTHING) {
                return false;
            }
            space.addEdge(start, finish);
            return true;
        }

        boolean readRim(Space space, Trail pen) {
            readSteps(space, pen, MOST_RIM);
            return pen.isRim();
        }

        /** Reads on to the first sign that does not go on; the caller sees whether it may stand there. */
        void readSteps(Space space, Trail pen, int most) {
            pen.clear();
            for (int letter = 0; letter < most; letter++) {
                int step = stepOfSign(look());
                if (step == NOTHING || step >> 1 >= space.edges || !pen.goOn(space, step)) {
                    return;
                }
                place++;
            }
        }

        private static int stepOfSign(int sign) {
            if (sign >= 'a' && sign <= 'z') {
                return 2 * (sign - 'a');
            }
            return sign >= 'A' && sign <= 'Z' ? 2 * (sign - 'A') + 1 : NOTHING;
        }

        private int readNumber(int least, int most) {
            look();
            int first = place;
            int number = 0;
            while (place < length && signs[place] >= '0' && signs[place] <= '9') {
                // no number beyond the most comes back, however long it is
                number = Math.min(10 * number + signs[place] - '0', most + 1);
                place++;
            }
            if (place > first && number >= least && number <= most) {
                return number;
            }
            place = first;
            return NOTHING;
        }
    }

    /** What a SHEET holds: nothing, or a row of a LANE. */
    private static final class Sheet {
        final int[] items = new int[MOST_ITEMS];
        int lane = NOTHING;
        int size;

        void renew(int newLane, int n) {
            lane = newLane;
            size = n;
            Arrays.fill(items, 0);
        }

        void put(int i, int v) {
            if (lane == 0) {
                items[i] = (byte) v;
            } else if (lane == 1) {
                items[i] = (short) v;
            } else {
                items[i] = v;
            }
        }
    }

    /** Rows of numbers of a SPACE, and what their ranks and whole-number steps tell. */
    private static final class Rows {
        final long[] cells = new long[MOST_EDGES * MOST_STOREYS * MOST_CORNERS * MOST_STOREYS];
        final long[] factors = new long[MOST_PANES];
        /** Sums of EDGES' odd PANES: at each PANE one of which it is the highest, or 0. */
        private final int[] basis = new int[MOST_PANES];
        int height;
        int width;
        /** Of rows of whole numbers a minor of their rank that is not 0. */
        long minor;
        /** All d1, d2, .. divide it, so cells may be kept below it and none runs over. */
        long modulus;

        int rankOfEdges(Space space, int p) {
            shape(space.edges, space.corners);
            for (int e = 0; e < space.edges; e++) {
                cells[e * width + space.to[e]] += 1;
                cells[e * width + space.from[e]] -= 1;
            }
            return p == 0 ? rankOfFractions() : rankModulo(p);
        }

        int rankOfPanes(Space space, int p) {
            fillPanes(space);
            return p == 0 ? rankOfFractions() : rankModulo(p);
        }

        private void shape(int newHeight, int newWidth) {
            height = newHeight;
            width = newWidth;
            Arrays.fill(cells, 0L);
        }

        private void fillPanes(Space space) {
            shape(space.panes, space.edges);
            for (int pane = 0; pane < space.panes; pane++) {
                for (int i = 0; i < space.lengths[pane]; i++) {
                    int step = space.rimStep(pane, i);
                    cells[pane * width + (step >> 1)] += (step & 1) == 0 ? 1 : -1;
                }
            }
        }

        private void keepBelow(long bound) {
            for (int at = 0; at < height * width; at++) {
                cells[at] = Math.floorMod(cells[at], bound);
            }
        }

        private int rankModulo(int p) {
            keepBelow(p);
            int rank = 0;
            for (int column = 0; column < width && rank < height; column++) {
                int row = rowWith(column, rank);
                if (row != NOTHING) {
                    swapRows(row, rank);
                    clearBelow(rank, column, p);
                    rank++;
                }
            }
            return rank;
        }

        private int rowWith(int column, int first) {
            for (int row = first; row < height; row++) {
                if (cells[row * width + column] != 0) {
                    return row;
                }
            }
            return NOTHING;
        }

        private void swapRows(int one, int other) {
            for (int column = 0; column < width && one != other; column++) {
                long kept = cells[one * width + column];
                cells[one * width + column] = cells[other * width + column];
                cells[other * width + column] = kept;
            }
        }

        /** Crosswise, so that no number has to be turned over modulo p. */
        private void clearBelow(int rank, int column, int p) {
            long pivot = cells[rank * width + column];
            for (int row = rank + 1; row < height; row++) {
                long head = cells[row * width + column];
                for (int k = column; k < width && head != 0; k++) {
                    long crossed = pivot * cells[row * width + k] - head * cells[rank * width + k];
                    cells[row * width + k] = Math.floorMod(crossed, (long) p);
                }
            }
        }

        /**
         * Every cell stays a minor of the rows as they were; a row of a RIM is at most 8 long, so
         * a minor of 8 rows is at most 8 to the power of 8 and no product runs over.
         */
        private int rankOfFractions() {
            minor = 1;
            int rank = 0;
            for (int column = 0; column < width && rank < height; column++) {
                int row = rowWith(column, rank);
                if (row != NOTHING) {
                    swapRows(row, rank);
                    clearBelowWhole(rank, column);
                    minor = cells[rank * width + column];
                    rank++;
                }
            }
            return rank;
        }

        private void clearBelowWhole(int rank, int column) {
            if (minor == 0) {
                return;
            }
            long pivot = cells[rank * width + column];
            for (int row = rank + 1; row < height; row++) {
                long head = cells[row * width + column];
                for (int k = column; k < width; k++) {
                    long crossed = pivot * cells[row * width + k] - head * cells[rank * width + k];
                    cells[row * width + k] = crossed / minor;
                }
            }
        }

        /** Finds d1, d2, .. of a SPACE: how many. */
        int findFactors(Space space) {
            int rank = Math.min(rankOfPanes(space, 0), factors.length);
            modulus = Math.max(1L, Math.abs(minor));
            fillPanes(space);
            keepBelow(modulus);
            for (int t = 0; t < rank; t++) {
                factors[t] = nextFactor(t);
            }
            return rank;
        }

        private long nextFactor(int t) {
            for (int round = 0; round < GUARD; round++) {
                if (!bringLeast(t)) {
                    return modulus;
                }
                if (clearLines(t)) {
                    long factor = divisorOf(cells[t * width + t], modulus);
                    cells[t * width + t] = factor;
                    int row = rowNotDivided(t, factor);
                    if (row == NOTHING) {
                        return factor;
                    }
                    // leaves a cell below the factor, so the next round's least one is less
                    addRow(row, t);
                    clearLines(t);
                }
            }
            return modulus;
        }

        /** Brings the least cell above 0 from t, t on to t, t. */
        private boolean bringLeast(int t) {
            int least = NOTHING;
            for (int row = t; row < height; row++) {
                for (int column = t; column < width; column++) {
                    int at = row * width + column;
                    if (cells[at] != 0 && (least == NOTHING || cells[at] < cells[least])) {
                        least = at;
                    }
                }
            }
            if (least == NOTHING) {
                return false;
            }
            swapRows(least / width, t);
            swapColumns(least % width, t);
            return true;
        }

        private void swapColumns(int one, int other) {
            for (int row = 0; row < height && one != other; row++) {
                long kept = cells[row * width + one];
                cells[row * width + one] = cells[row * width + other];
                cells[row * width + other] = kept;
            }
        }

        /** Takes t's row and column out of the other ones, as often as they go in: whether nothing stays. */
        private boolean clearLines(int t) {
            long pivot = cells[t * width + t];
            if (pivot == 0) {
                return false;
            }
            boolean clear = true;
            for (int row = t + 1; row < height; row++) {
                long times = cells[row * width + t] / pivot;
                for (int column = t; column < width && times != 0; column++) {
                    takeOut(row * width + column, times, t * width + column);
                }
                clear &= cells[row * width + t] == 0;
            }
            for (int column = t + 1; column < width; column++) {
                long times = cells[t * width + column] / pivot;
                for (int row = t; row < height && times != 0; row++) {
                    takeOut(row * width + column, times, row * width + t);
                }
                clear &= cells[t * width + column] == 0;
            }
            return clear;
        }

        private void takeOut(int at, long times, int source) {
            cells[at] = Math.floorMod(cells[at] - times * cells[source], modulus);
        }

        private int rowNotDivided(int t, long factor) {
            for (int row = t + 1; row < height; row++) {
                for (int column = t + 1; column < width; column++) {
                    if (factor != 0 && cells[row * width + column] % factor != 0) {
                        return row;
                    }
                }
            }
            return NOTHING;
        }

        private void addRow(int row, int t) {
            for (int column = t; column < width; column++) {
                takeOut(t * width + column, -1, row * width + column);
            }
        }

        private static long divisorOf(long a, long b) {
            long one = a;
            long other = b;
            for (int round = 0; round < GUARD && other != 0; round++) {
                long rest = one % other;
                one = other;
                other = rest;
            }
            return one;
        }

        /** Whether bits of EDGES can be told whose odd PANES are just these. */
        boolean isSumOfEdges(Space space, int faces) {
            Arrays.fill(basis, 0);
            for (int e = 0; e < space.edges; e++) {
                int rest = clearByBasis(space.oddPanes(e));
                if (rest != 0) {
                    basis[highestBit(rest)] = rest;
                }
            }
            return clearByBasis(faces) == 0;
        }

        private int clearByBasis(int bits) {
            int rest = bits;
            for (int pane = MOST_PANES - 1; pane >= 0; pane--) {
                if ((rest >> pane & 1) == 1) {
                    rest ^= basis[pane];
                }
            }
            return rest;
        }

        private static int highestBit(int bits) {
            int highest = MOST_PANES - 1;
            while (highest > 0 && bits >> highest == 0) {
                highest--;
            }
            return highest;
        }
    }

    /** All ways in which n STOREYS change, numbered in the ORDER of where each goes. */
    private static final class Shuffles {
        final int storeys;
        final int order;
        private final int[] goes;
        private final int[] followed;
        private final int[] backs;

        Shuffles(int n) {
            storeys = n;
            order = factorial(n);
            goes = new int[order * n];
            followed = new int[order * order];
            backs = new int[order];
            int found = 0;
            for (int code = 0; code < 1 << 2 * n && found < order; code++) {
                if (isShuffle(code, n)) {
                    for (int s = 0; s < n; s++) {
                        goes[found * n + s] = goal(code, s, n);
                    }
                    found++;
                }
            }
            multiplyAll();
        }

        private static int factorial(int n) {
            int all = 1;
            for (int k = 2; k <= n; k++) {
                all *= k;
            }
            return all;
        }

        /** A code has two bits for each STOREY, those of STOREY 0 the highest. */
        private static int goal(int code, int storey, int n) {
            return code >> 2 * (n - 1 - storey) & 3;
        }

        private static boolean isShuffle(int code, int n) {
            int seen = 0;
            for (int s = 0; s < n; s++) {
                seen |= 1 << goal(code, s, n);
            }
            return seen == (1 << n) - 1;
        }

        private void multiplyAll() {
            for (int a = 0; a < order; a++) {
                for (int b = 0; b < order; b++) {
                    int both = numberOf(a, b);
                    followed[a * order + b] = both;
                    if (both == 0) {
                        backs[a] = b;
                    }
                }
            }
        }

        private int numberOf(int a, int b) {
            for (int c = 0; c < order; c++) {
                int alike = 0;
                while (alike < storeys && move(c, alike) == move(b, move(a, alike))) {
                    alike++;
                }
                if (alike == storeys) {
                    return c;
                }
            }
            return 0;
        }

        int move(int shuffle, int storey) {
            return goes[shuffle * storeys + storey];
        }

        int back(int shuffle) {
            return backs[shuffle];
        }

        /** One behind the other; 0 moves none. */
        int follow(int a, int b) {
            return followed[a * order + b];
        }

        /** The same with other numbers of STOREYS. */
        int renumber(int shuffle, int numbers) {
            return follow(follow(back(numbers), shuffle), numbers);
        }
    }

    /** Goes through the TABLES of a SPACE that HOLD, in their ORDER. */
    private static final class Tables {
        final int[] chosen = new int[MOST_EDGES];
        private final int[] rims = new int[MOST_PANES * MOST_RIM];
        private final int[] lengths = new int[MOST_PANES];
        /** Of each RIM its last TURN: when that is chosen it is looked at. */
        private final int[] lasts = new int[MOST_PANES];
        private final int[] wordTurns = new int[MOST_WORD];
        private int panes;
        private int level;
        private boolean isBegun;
        int turns;
        Shuffles shuffles;

        boolean isMany(Space space, Shuffles used) {
            int all = 1;
            for (int turn = 0; turn < space.turns && all <= MOST_TABLES; turn++) {
                all *= used.order;
            }
            return all > MOST_TABLES;
        }

        void begin(Space space, Shuffles used) {
            shuffles = used;
            turns = space.turns;
            level = 0;
            isBegun = false;
            chosen[0] = NOTHING;
            panes = 0;
            for (int pane = 0; pane < space.panes; pane++) {
                if (space.isPaneOfPart(pane)) {
                    takeRim(space, pane);
                }
            }
        }

        private void takeRim(Space space, int pane) {
            int length = 0;
            int last = NOTHING;
            for (int i = 0; i < space.lengths[pane]; i++) {
                int step = space.rimStep(pane, i);
                int turn = space.ways[step >> 1];
                if (turn >= 0) {
                    rims[panes * MOST_RIM + length] = 2 * turn + (step & 1);
                    length++;
                    last = Math.max(last, turn);
                }
            }
            lengths[panes] = length;
            lasts[panes] = last;
            panes++;
        }

        /** With isLayers those alone of which none LIKE it is ahead. */
        boolean findNext(boolean isLayers) {
            if (turns == 0) {
                boolean isFirstTime = !isBegun;
                isBegun = true;
                return isFirstTime;
            }
            for (int round = 0; round < GUARD && level >= 0; round++) {
                chosen[level]++;
                if (chosen[level] >= shuffles.order) {
                    level--;
                } else if (doRimsHold() && (!isLayers || isFirstOfLike())) {
                    if (level == turns - 1) {
                        return true;
                    }
                    level++;
                    chosen[level] = NOTHING;
                }
            }
            return false;
        }

        /** The next TABLE that is a LAYER's. */
        boolean findNextLayer() {
            for (int round = 0; round < GUARD && findNext(true); round++) {
                if (isOne()) {
                    return true;
                }
            }
            return false;
        }

        boolean findLayer(int i) {
            for (int passed = 0; passed < MOST_TABLES && findNextLayer(); passed++) {
                if (passed == i) {
                    return true;
                }
            }
            return false;
        }

        private boolean doRimsHold() {
            for (int pane = 0; pane < panes; pane++) {
                if (lasts[pane] == level && moveAlong(rims, pane * MOST_RIM, lengths[pane]) != 0) {
                    return false;
                }
            }
            return true;
        }

        private int moveAlong(int[] row, int first, int length) {
            int all = 0;
            for (int i = first; i < first + length; i++) {
                int shuffle = chosen[row[i] >> 1];
                all = shuffles.follow(all, (row[i] & 1) == 0 ? shuffle : shuffles.back(shuffle));
            }
            return all;
        }

        private boolean isOne() {
            int seen = 1;
            for (int round = 1; round < shuffles.storeys; round++) {
                for (int s = 0; s < shuffles.storeys; s++) {
                    for (int turn = 0; turn < turns && (seen >> s & 1) == 1; turn++) {
                        seen |= 1 << shuffles.move(chosen[turn], s);
                    }
                }
            }
            return seen == (1 << shuffles.storeys) - 1;
        }

        /** Looks at the TURNS chosen so far: one LIKE them that is ahead is so whatever comes behind. */
        private boolean isFirstOfLike() {
            for (int numbers = 1; numbers < shuffles.order; numbers++) {
                int turn = 0;
                while (turn < level && shuffles.renumber(chosen[turn], numbers) == chosen[turn]) {
                    turn++;
                }
                if (shuffles.renumber(chosen[turn], numbers) < chosen[turn]) {
                    return false;
                }
            }
            return true;
        }

        boolean isMovedBySome(Space space, Shuffles used, Trail word) {
            int length = 0;
            for (int i = 0; i < word.count; i++) {
                int turn = space.ways[word.steps[i] >> 1];
                if (turn >= 0) {
                    wordTurns[length] = 2 * turn + (word.steps[i] & 1);
                    length++;
                }
            }
            begin(space, used);
            for (int round = 0; round < GUARD && findNext(false); round++) {
                if (moveAlong(wordTurns, 0, length) != 0) {
                    return true;
                }
            }
            return false;
        }
    }

    /** THE LAYER, with what it lies over as that was when it was laid. */
    private static final class Layer {
        final Space space = new Space(MOST_CORNERS * MOST_STOREYS, MOST_EDGES * MOST_STOREYS, MOST_PANES * MOST_STOREYS);
        final int[] table = new int[MOST_EDGES];
        private final int[] ways = new int[MOST_EDGES];
        private final int[] cornerPlaces = new int[MOST_CORNERS];
        private final int[] edgePlaces = new int[MOST_EDGES];
        private final int[] steps = new int[MOST_RIM];
        int over = NOTHING;
        int turns;
        /** Those of its STOREYS; null as long as there is no LAYER. */
        Shuffles shuffles;

        boolean isLaid() {
            return shuffles != null;
        }

        boolean hasStorey(int storey) {
            return shuffles != null && storey >= 0 && storey < shuffles.storeys;
        }

        boolean knows(Trail word) {
            for (int i = 0; i < word.count; i++) {
                if (ways[word.steps[i] >> 1] == APART) {
                    return false;
                }
            }
            return true;
        }

        int moveByStep(int step, int storey) {
            int turn = ways[step >> 1];
            if (turn < 0) {
                return storey;
            }
            int shuffle = table[turn];
            return shuffles.move((step & 1) == 0 ? shuffle : shuffles.back(shuffle), storey);
        }

        void lay(Space base, int number, Tables found) {
            over = number;
            shuffles = found.shuffles;
            turns = found.turns;
            System.arraycopy(found.chosen, 0, table, 0, turns);
            Arrays.fill(ways, APART);
            System.arraycopy(base.ways, 0, ways, 0, base.edges);
            placeCorners(base);
            space.clear(base.partCorners * shuffles.storeys);
            addEdges(base);
            addPanes(base);
            space.findPart();
        }

        private void placeCorners(Space base) {
            int placed = 0;
            for (int c = 0; c < base.corners; c++) {
                if (base.isReached[c]) {
                    cornerPlaces[c] = placed;
                    placed++;
                }
            }
        }

        private void addEdges(Space base) {
            int n = shuffles.storeys;
            int placed = 0;
            for (int e = 0; e < base.edges; e++) {
                if (ways[e] != APART) {
                    for (int s = 0; s < n; s++) {
                        space.addEdge(n * cornerPlaces[base.from[e]] + s,
                                n * cornerPlaces[base.to[e]] + moveByStep(2 * e, s));
                    }
                    edgePlaces[e] = placed;
                    placed++;
                }
            }
        }

        private void addPanes(Space base) {
            for (int pane = 0; pane < base.panes; pane++) {
                for (int s = 0; s < shuffles.storeys && base.isPaneOfPart(pane); s++) {
                    addPane(base, pane, s);
                }
            }
        }

        private void addPane(Space base, int pane, int storey) {
            int here = storey;
            for (int i = 0; i < base.lengths[pane]; i++) {
                int step = base.rimStep(pane, i);
                int next = moveByStep(step, here);
                // an edge is named by the storey that it comes from, back or not
                int named = (step & 1) == 0 ? here : next;
                steps[i] = 2 * (shuffles.storeys * edgePlaces[step >> 1] + named) + (step & 1);
                here = next;
            }
            space.addPane(steps, base.lengths[pane]);
        }
    }

    /** Draws WORDS over PANES, and keeps the NEXT ones of one of them to meet those of the other. */
    private static final class Drawer {
        private static final int ROOM = 4096;
        private static final int HEAD_STEPS = 12;
        private static final int STEP_BITS = 5;
        /** In every tail, so that a place that is free is told from the empty WORD. */
        private static final long TAKEN = 1L << 40;
        private static final long SPREAD = 0x9E3779B97F4A7C15L;

        private final long[] heads = new long[ROOM];
        private final long[] tails = new long[ROOM];
        private final int[] steps = new int[MOST_WORD + MOST_RIM];
        private int count;
        private long head;
        private long tail;
        private long soughtHead;
        private long soughtTail;
        private boolean isFound;
        private boolean isMet;

        int findApart(Space space, Trail one, Trail other) {
            Arrays.fill(tails, 0L);
            isMet = false;
            seek(one);
            long oneHead = head;
            long oneTail = tail;
            seek(other);
            if (oneHead == head && oneTail == tail) {
                return 0;
            }
            drawAll(space, one, true);
            if (isFound) {
                return 1;
            }
            seek(one);
            drawAll(space, other, false);
            if (isFound) {
                return 1;
            }
            return isMet ? 2 : SPENT;
        }

        private void seek(Trail word) {
            count = 0;
            pushAll(word, 0, word.count);
            pack();
            soughtHead = head;
            soughtTail = tail;
            isFound = false;
        }

        private void drawAll(Space space, Trail word, boolean isKept) {
            int corner = word.begin;
            for (int place = 0; place <= word.count; place++) {
                for (int pane = 0; pane < space.panes; pane++) {
                    for (int first = 0; first < space.lengths[pane]; first++) {
                        int step = space.rimStep(pane, first);
                        if (space.startOf(step) == corner) {
                            draw(space, word, place, pane, first, false);
                            meet(isKept);
                        }
                        if (space.endOf(step) == corner) {
                            draw(space, word, place, pane, first, true);
                            meet(isKept);
                        }
                    }
                }
                if (place < word.count) {
                    corner = space.endOf(word.steps[place]);
                }
            }
        }

        private void draw(Space space, Trail word, int place, int pane, int first, boolean isBack) {
            int length = space.lengths[pane];
            count = 0;
            pushAll(word, 0, place);
            int at = first;
            for (int i = 0; i < length; i++) {
                int step = space.rimStep(pane, at);
                push(isBack ? step ^ 1 : step);
                if (isBack) {
                    at = at == 0 ? length - 1 : at - 1;
                } else {
                    at = at == length - 1 ? 0 : at + 1;
                }
            }
            pushAll(word, place, word.count);
        }

        private void pushAll(Trail word, int first, int behind) {
            for (int i = first; i < behind; i++) {
                push(word.steps[i]);
            }
        }

        private void push(int step) {
            if (count > 0 && steps[count - 1] == (step ^ 1)) {
                count--;
            } else if (count < steps.length) {
                steps[count] = step;
                count++;
            }
        }

        private void meet(boolean isKept) {
            if (count > MOST_WORD) {
                return;
            }
            pack();
            isFound |= head == soughtHead && tail == soughtTail;
            int at = placeOf();
            if (isKept) {
                heads[at] = head;
                tails[at] = tail;
            } else {
                isMet |= tails[at] != 0;
            }
        }

        private void pack() {
            head = 0;
            tail = TAKEN;
            for (int i = 0; i < count && i < MOST_WORD; i++) {
                long code = steps[i] + 1;
                if (i < HEAD_STEPS) {
                    head |= code << STEP_BITS * i;
                } else {
                    tail |= code << STEP_BITS * (i - HEAD_STEPS);
                }
            }
        }

        /** Where the packed WORD is kept, or a place that is free: fewer than ROOM are ever kept. */
        private int placeOf() {
            int at = (int) ((head * SPREAD ^ tail) * SPREAD >>> 52);
            for (int round = 0; round < ROOM; round++) {
                if (tails[at] == 0 || (tails[at] == tail && heads[at] == head)) {
                    return at;
                }
                at = at + 1 & ROOM - 1;
            }
            return at;
        }
    }
}
