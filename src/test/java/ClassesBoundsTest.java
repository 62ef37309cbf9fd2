import java.util.EnumSet;

/** Promises 24 to 27: each bound that the document names, each refusal, the first of several. */
public final class ClassesBoundsTest {
    private static final int BAD = LoopSpaces.BAD;
    private static final int NOT = LoopSpaces.NOT;
    private static final int FULL = LoopSpaces.FULL;
    private static final Bounds BOUNDS = new Bounds();
    private static final Story RICH = Bounds.RICH;
    private static final Story BARE = RICH.then("face", 1);

    public static void main(String[] args) {
        productNumbers();
        productNot();
        productPairs();
        noughtNumbers();
        noughts();
        foldNumbers();
        foldsOneStepAlone();
        foldsAgain();
        joinCorners();
        joinEdges();
        joinPanes();
        joinWhole();
        BOUNDS.end("ClassesBoundsTest", "product BAD NOT", "nought BAD", "fold BAD", "join FULL");
    }

    private static String loops(int edges) {
        StringBuilder text = new StringBuilder("1");
        for (int e = 0; e < edges; e++) {
            text.append(';').append((char) ('a' + e)).append("=0>0");
        }
        return text.toString();
    }

    /** "of a SPACE (0, 1) .. BAD (bits of EDGES)". */
    private static void productNumbers() {
        BOUNDS.range("a space (0, 1)", RICH, 0, 1, BAD, "product", Bounds.numbers(0, 0, 0), 0);
        BOUNDS.range("a space (0, 1)", Story.NEW, 0, 1, BAD, "product", Bounds.numbers(0, 0, 0), 0);
        for (int edges : new int[] {0, 1, 2, 11, 12}) {
            Story story = BARE.text(0, loops(edges));
            int most = (1 << edges) - 1;
            BOUNDS.range("bits of edges, x", story, 0, most, BAD, "product", Bounds.numbers(0, 0, 0), 1);
            BOUNDS.range("bits of edges, y", story, 0, most, BAD, "product", Bounds.numbers(0, 0, 0), 2);
            BOUNDS.takes("no pane: nothing", story, 0, "product", 0, most, most);
        }
        BOUNDS.changesOnly("nothing", RICH, EnumSet.noneOf(Story.Part.class), "product", 1, 1, 2);
    }

    /** "NOT: one is no CLASS": bits so that each RIM goes (along and back) an even number of times by them. */
    private static void productNot() {
        Story story = BARE.text(0, loops(3) + ";:aab;:aA;:BaabA");
        BOUNDS.refuses("x is none", story, NOT, "product", 0, 2, 0);
        BOUNDS.refuses("y is none", story, NOT, "product", 0, 0, 2);
        BOUNDS.refuses("both are none", story, NOT, "product", 0, 2, 2);
        BOUNDS.refuses("by the last rim alone", story, NOT, "product", 0, 1, 0);
        BOUNDS.takes("an edge of no rim", story, 0, "product", 0, 4, 4);
        BOUNDS.refuses("bad ahead of not", story, BAD, "product", 0, 2, 8);
        BOUNDS.refuses("bad ahead of not", story, BAD, "product", 0, 8, 2);
        BOUNDS.refuses("bad ahead of not", story, BAD, "product", 0, -1, 2);
        BOUNDS.takes("along and back count alike", BARE.text(0, loops(2) + ";:abA;:b"), NOT, "product", 0, 2, 0);
        BOUNDS.takes("along and back count alike", BARE.text(0, loops(2) + ";:abA;:b"), 0, "product", 0, 1, 1);
        BOUNDS.takes("a pane apart counts", Story.NEW.text(0, "2;a=0>0;b=1>1;:b"), NOT, "product", 0, 2, 0);
    }

    private static void product(String rims, int edges, int x, int y, int due) {
        BOUNDS.takes("product of " + rims, BARE.text(0, loops(edges) + rims), due, "product", 0, x, y);
    }

    /** "pairs of STEPS of its RIM, the first in x, the latter in y, behind it, and of STEPS back that are in both". */
    private static void productPairs() {
        product(";:aa", 1, 1, 1, 1);
        product(";:AA", 1, 1, 1, 1);
        product(";:aA", 1, 1, 1, 0);
        product(";:Aa", 1, 1, 1, 0);
        product(";:aaaa", 1, 1, 1, 0);
        product(";:aaaaaa", 1, 1, 1, 1);
        product(";:aaaaaaaa", 1, 1, 1, 0);
        product(";:aabb", 2, 1, 2, 0);
        product(";:abba", 2, 1, 2, 0);
        product(";:abab", 2, 1, 2, 1);
        product(";:abAB", 2, 1, 2, 1);
        product(";:abAB", 2, 2, 1, 1);
        product(";:abAB", 2, 3, 3, 0);
        product(";:abAB", 2, 1, 0, 0);
        product(";:abcABC", 3, 1, 6, 0);
        product(";:abcABC", 3, 1, 2, 1);
        product(";:abcABC", 3, 3, 4, 0);
        // the bits of the panes, from the first to the eighth
        product(";:aa;:aA;:aa;:aA;:aA;:aA;:aA;:aa", 1, 1, 1, 133);
        product(";:bB;:bB;:bB;:bB;:bB;:bB;:bB;:ll", 12, 2048, 2048, 128);
        Story eight = BARE.text(0, loops(2) + ";:a".repeat(7).replace("a", "aA")).face(0, "abababBA");
        BOUNDS.takes("the eighth rim of eight steps", eight, 128, "product", 0, 1, 2);
        BOUNDS.takes("the eighth rim of eight steps", eight, 0, "product", 0, 3, 3);
    }

    /** "Whether PANES (bits) are NOUGHT: 1, 0. BAD." */
    private static void noughtNumbers() {
        BOUNDS.range("a space (0, 1)", RICH, 0, 1, BAD, "nought", Bounds.numbers(0, 0), 0);
        BOUNDS.range("a space (0, 1)", Story.NEW, 0, 1, BAD, "nought", Bounds.numbers(0, 0), 0);
        for (int panes : new int[] {0, 1, 2, 7, 8}) {
            Story story = BARE.text(0, loops(1) + ";:a".repeat(panes));
            BOUNDS.range("bits of panes", story, 0, (1 << panes) - 1, BAD, "nought", Bounds.numbers(0, 0), 1);
            BOUNDS.takes("none of them", story, 1, "nought", 0, 0);
            BOUNDS.takes("all of them", story, 1, "nought", 0, (1 << panes) - 1);
        }
        BOUNDS.changesOnly("nothing", RICH, EnumSet.noneOf(Story.Part.class), "nought", 0, 1);
    }

    /** "if bits of EDGES can be told for which just those PANES have RIMS that go an odd number of times by them". */
    private static void noughts() {
        Story alike = BARE.text(0, loops(1) + ";:a;:A;:aaa;:aa");
        for (int faces = 0; faces < 16; faces++) {
            BOUNDS.takes("just those", alike, faces == 0 || faces == 7 ? 1 : 0, "nought", 0, faces);
        }
        Story each = BARE.text(0, loops(8) + ";:a;:b;:c;:d;:e;:f;:g;:h");
        for (int faces = 0; faces < 256; faces += 5) {
            BOUNDS.takes("each by its own edge", each, 1, "nought", 0, faces);
        }
        Story sums = BARE.text(0, loops(3) + ";:ab;:bc;:ca");
        for (int faces = 0; faces < 8; faces++) {
            boolean isEven = Integer.bitCount(faces) % 2 == 0;
            BOUNDS.takes("sums of edges", sums, isEven ? 1 : 0, "nought", 0, faces);
        }
        BOUNDS.takes("no odd rim", BARE.text(0, loops(2) + ";:abAB"), 0, "nought", 0, 1);
        BOUNDS.takes("edges of the twelve", BARE.text(0, loops(12) + ";:l"), 1, "nought", 0, 1);
    }

    /** "FOLDED: how many PANES go. BAD." */
    private static void foldNumbers() {
        BOUNDS.range("a space (0, 1)", RICH, 0, 1, BAD, "fold", Bounds.numbers(0), 0);
        BOUNDS.range("a space (0, 1)", Story.NEW, 0, 1, BAD, "fold", Bounds.numbers(0), 0);
        BOUNDS.takes("none goes", Story.NEW, 0, "fold", 0);
        BOUNDS.takes("none goes", RICH, 0, "fold", 1);
        BOUNDS.changesOnly("its slots alone, if none goes", RICH, EnumSet.of(Story.Part.SLOT_1), "fold", 1);
        BOUNDS.takes("one goes", RICH, 1, "fold", 0);
        BOUNDS.changesOnly("a space and its slots", RICH, EnumSet.of(Story.Part.SPACE_0, Story.Part.SLOT_0,
            Story.Part.SLOT_2), "fold", 0);
    }

    private static void folds(String text, int due, int corners, int edges, int panes) {
        Story story = BARE.text(0, text);
        BOUNDS.takes("fold of " + text, story, due, "fold", 0);
        int[] counts = {corners, edges, panes};
        for (int what = 0; what < 3; what++) {
            BOUNDS.takes("fold of " + text, story.then("fold", 0), counts[what], "count", 0, what);
        }
    }

    /** "the least EDGE of which there is just one STEP in all RIMS together goes with the PANE that has it". */
    private static void foldsOneStepAlone() {
        folds("1;a=0>0;:a", 1, 1, 0, 0);
        folds("1;a=0>0;:A", 1, 1, 0, 0);
        folds("1;a=0>0;:aa", 0, 1, 1, 1);
        folds("1;a=0>0;:aA", 0, 1, 1, 1);
        folds("1;a=0>0;:a;:a", 0, 1, 1, 2);
        folds("1;a=0>0;:a;:A", 0, 1, 1, 2);
        folds("1;a=0>0", 0, 1, 1, 0);
        folds("1;a=0>0;b=0>0;:ab", 1, 1, 1, 0);
        folds("2;a=0>1;b=1>0;:ab", 1, 2, 1, 0);
        folds("2;a=0>0;b=1>1;:b", 1, 2, 1, 0);
        folds("8;a=0>7;b=7>0;c=7>7;:ab;:c", 2, 8, 1, 0);
        Story least = BARE.text(0, "2;a=0>1;b=1>1;c=1>0;:abc").then("fold", 0);
        BOUNDS.takes("the least edge goes", least, 1, "told", 0, 0, 1);
        BOUNDS.takes("the least edge goes", least, 1, "told", 0, 0, 0);
        BOUNDS.takes("numbers close up", least, 0, "told", 0, 1, 1);
        BOUNDS.takes("numbers close up", least, BAD, "told", 0, 2, 0);
        Story behind = BARE.text(0, "2;a=0>0;b=0>1;c=1>0;:aa;:baac;:cbBC").then("fold", 0);
        BOUNDS.takes("no edge alone", behind, 3, "count", 0, 1);
        Story last = BARE.text(0, "1;a=0>0;b=0>0;c=0>0;:aa;:bb;:aBc;:bA").then("fold", 0);
        int[][] rims = {{0, 0, BAD}, {1, 1, BAD}, {1, 100, BAD}};
        for (int face = 0; face < rims.length; face++) {
            for (int i = 0; i < rims[face].length; i++) {
                BOUNDS.takes("numbers of panes close up", last, rims[face][i], "rim", 0, face, i);
            }
        }
        BOUNDS.takes("numbers of panes close up", last, BAD, "rim", 0, 3, 0);
    }

    /** "as long as there is one; numbers close up". */
    private static void foldsAgain() {
        folds("1;a=0>0;b=0>0;:ab;:bb", 1, 1, 1, 1);
        folds("1;a=0>0;b=0>0;:ab;:b", 2, 1, 0, 0);
        folds("1;a=0>0;b=0>0;c=0>0;:c;:cb;:ba", 3, 1, 0, 0);
        folds(loops(9) + ";:aI;:bA;:cB;:dC;:eD;:fE;:gF;:hG", 8, 1, 1, 0);
        folds(loops(12) + ";:a;:b;:c;:d;:e;:f;:g;:l", 8, 1, 4, 0);
        Story closed = BARE.text(0, "3;a=0>0;b=0>1;c=1>2;d=2>0;e=0>0;:ee;:bcd;:aeE;:dDdD;:bB").then("fold", 0);
        int[][] rims = {{2, 2, BAD}, {1, 101, 1, 101, BAD}, {0, 100, BAD}};
        BOUNDS.takes("three panes stay", closed, 3, "count", 0, 2);
        for (int face = 0; face < rims.length; face++) {
            for (int i = 0; i < rims[face].length; i++) {
                BOUNDS.takes("edges in rims close up", closed, rims[face][i], "rim", 0, face, i);
            }
        }
        BOUNDS.takes("the tree is found anew", closed, 1, "count", 0, 5);
        Story eights = BARE.text(0, loops(4) + ";:a;:bbbbbbbb;:cccccccc;:dddddddd").then("fold", 0);
        for (int i = 0; i < 24; i++) {
            BOUNDS.takes("rims of eight steps", eights, i / 8, "rim", 0, i / 8, i % 8);
        }
    }

    /** "SPACE 1 is joined to SPACE 0 at CORNERS 0: its other CORNERS .. CORNERS then. FULL: too many of any." */
    private static void joinCorners() {
        for (int first = 1; first <= 8; first++) {
            for (int second = 1; second <= 8; second++) {
                Story story = BARE.then("corners", 0, first).then("corners", 1, second);
                if (first + second <= 9) {
                    BOUNDS.takes("corners then", story, first + second - 1, "join");
                } else {
                    BOUNDS.refuses("too many corners", story, FULL, "join");
                }
            }
        }
    }

    private static void joinEdges() {
        for (int first : new int[] {0, 1, 6, 11, 12}) {
            int room = 12 - first;
            Story story = BARE.text(0, loops(first)).word(3, 0, "");
            BOUNDS.takes("twelve edges", story.text(1, loops(room)), 1, "join");
            BOUNDS.takes("twelve edges", story.text(1, loops(room)).then("join"), 12, "count", 0, 1);
            if (first > 0) {
                BOUNDS.refuses("too many edges", story.text(1, loops(room + 1)), FULL, "join");
                BOUNDS.refuses("too many edges", story.text(1, loops(12)), FULL, "join");
            }
        }
    }

    private static void joinPanes() {
        for (int first : new int[] {0, 1, 4, 7, 8}) {
            int room = 8 - first;
            Story story = BARE.text(0, "1;a=0>0" + ";:a".repeat(first)).word(3, 0, "");
            Story right = story.text(1, "1;a=0>0" + ";:a".repeat(room));
            BOUNDS.takes("eight panes", right, 1, "join");
            BOUNDS.takes("eight panes", right.then("join"), 8, "count", 0, 2);
            if (first > 0) {
                BOUNDS.refuses("too many panes", story.text(1, "1;a=0>0" + ";:a".repeat(room + 1)), FULL, "join");
                BOUNDS.refuses("too many panes", story.text(1, "1;a=0>0" + ";:a".repeat(8)), FULL, "join");
            }
        }
        Story all = BARE.text(0, "4;a=0>3;b=0>0;c=0>0;d=0>0;e=0>0;f=3>3;:f;:b;:b;:b");
        Story other = all.text(1, "5;a=0>0;b=4>4;c=0>4;d=0>0;e=0>0;f=0>0;:b;:a;:a;:cbC");
        BOUNDS.takes("all full at once", other, 8, "join");
        int[] counts = {8, 12, 8};
        for (int what = 0; what < counts.length; what++) {
            BOUNDS.takes("all full at once", other.then("join"), counts[what], "count", 0, what);
        }
        BOUNDS.takes("the last edge", other.then("join"), 0, "told", 0, 11, 1);
        BOUNDS.takes("an edge to its last corner", other.then("join"), 7, "told", 0, 8, 1);
        BOUNDS.takes("the last rim", other.then("join"), 108, "rim", 0, 7, 2);
        Story eights = BARE.text(0, "1;a=0>0;b=0>0" + ";:aaaaaaaa".repeat(4)).text(1, "1;a=0>0" + ";:AAAAAAAA".repeat(4));
        for (int i = 0; i < 64; i++) {
            BOUNDS.takes("rims of eight steps", eights.then("join"), i < 32 ? 0 : 102, "rim", 0, i / 8, i % 8);
        }
    }

    /** "(SPACE 1 stays.)"; at CORNERS 0. */
    private static void joinWhole() {
        BOUNDS.changesOnly("space 0 and its slots", RICH, EnumSet.of(Story.Part.SPACE_0, Story.Part.SLOT_0,
            Story.Part.SLOT_2), "join");
        BOUNDS.takes("corners then", RICH, 3, "join");
        Story story = BARE.text(0, "2;a=0>1").text(1, "3;a=0>1;b=1>2;c=2>0;:abc").then("join");
        int[][] edges = {{0, 1}, {0, 2}, {2, 3}, {3, 0}};
        for (int e = 0; e < edges.length; e++) {
            BOUNDS.takes("at corners 0", story, edges[e][0], "told", 0, e, 0);
            BOUNDS.takes("at corners 0", story, edges[e][1], "told", 0, e, 1);
        }
        for (int i = 0; i < 3; i++) {
            BOUNDS.takes("rims come behind", story, 1 + i, "rim", 0, 0, i);
        }
        BOUNDS.takes("joined again", story, 6, "join");
        BOUNDS.takes("joined once more", story.then("join"), 8, "join");
        BOUNDS.refuses("and no more", story.then("join").then("join"), FULL, "join");
        BOUNDS.takes("a point changes nothing", BARE.then("corners", 1, 1), 3, "join");
    }
}
