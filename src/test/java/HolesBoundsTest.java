import java.util.EnumSet;

/** Promises 10 and 11: each bound that the document names, each refusal, the first of several. */
public final class HolesBoundsTest {
    private static final int BAD = LoopSpaces.BAD;
    private static final int NONE = LoopSpaces.NONE;
    private static final Bounds BOUNDS = new Bounds();
    private static final Story RICH = Bounds.RICH;
    private static final String TWELVE =
        "1;a=0>0;b=0>0;c=0>0;d=0>0;e=0>0;f=0>0;g=0>0;h=0>0;i=0>0;j=0>0;k=0>0;l=0>0";
    private static final int[] MODULI = {0, 2, 3, 5, 7};

    public static void main(String[] args) {
        holesNumbers();
        moduli();
        modulusOfTheLayer();
        rowsOfEdges();
        rowsOfPanes();
        emptyAndFull();
        bendNumbers();
        bendsAboveOne();
        bendsAtTheMost();
        BOUNDS.end("HolesBoundsTest", "holes BAD", "bend BAD NONE");
    }

    private static void holes(String sentence, Story story, int space, int p, int... due) {
        for (int d = 0; d < 3; d++) {
            BOUNDS.takes(sentence, story, due[d], "holes", space, d, p);
        }
    }

    /** "HOLES of a SPACE (0 .. 2)", "of dimension 0, 1, 2". */
    private static void holesNumbers() {
        for (int d = 0; d < 3; d++) {
            BOUNDS.range("0 .. 2 with a layer", RICH, 0, 2, BAD, "holes", Bounds.numbers(0, d, 2), 0);
            BOUNDS.range("2 without a layer", Story.NEW, 0, 1, BAD, "holes", Bounds.numbers(0, d, 2), 0);
            BOUNDS.changesOnly("nothing", RICH, EnumSet.noneOf(Story.Part.class), "holes", 0, d, 0);
            BOUNDS.changesOnly("nothing", RICH, EnumSet.noneOf(Story.Part.class), "holes", 2, d, 2);
        }
        for (int space = 0; space < 3; space++) {
            BOUNDS.range("dimension 0, 1, 2", RICH, 0, 2, BAD, "holes", Bounds.numbers(space, 0, 3), 1);
        }
    }

    /** "modulo a prime p (2, 3, 5, 7) or of fractions (p 0)". */
    private static void moduli() {
        for (int p = -8; p <= 32; p++) {
            boolean isTaken = p == 0 || p == 2 || p == 3 || p == 5 || p == 7;
            for (int d = 0; d < 3 && !isTaken; d++) {
                BOUNDS.refuses("p is 2, 3, 5, 7 or 0", RICH, BAD, "holes", 0, d, p);
                BOUNDS.refuses("p is 2, 3, 5, 7", RICH, BAD, "holes", 2, d, p);
            }
        }
        BOUNDS.refuses("p far below", RICH, BAD, "holes", 0, 0, Integer.MIN_VALUE);
        BOUNDS.refuses("p far beyond", RICH, BAD, "holes", 0, 0, Integer.MAX_VALUE);
        for (int bend = 2; bend <= 8; bend++) {
            Story story = RICH.then("face", 0).text(0, "1;a=0>0;:" + "a".repeat(bend));
            for (int p : MODULI) {
                boolean isIn = p != 0 && bend % p == 0;
                holes("a " + bend + " times, p " + p, story, 0, p, 1, isIn ? 1 : 0, isIn ? 1 : 0);
            }
        }
    }

    /** "BAD: also p 0 of THE LAYER." */
    private static void modulusOfTheLayer() {
        for (int d = 0; d < 3; d++) {
            BOUNDS.refuses("p 0 of the layer", RICH, BAD, "holes", 2, d, 0);
            BOUNDS.refuses("p 0 without a layer", Story.NEW, BAD, "holes", 2, d, 0);
        }
        for (int p : new int[] {2, 3, 5, 7}) {
            holes("a prime of the layer", RICH, 2, p, 1, 0, 1);
        }
        holes("p 0 of what it lies over", RICH, 0, 0, 1, 0, 0);
        holes("p 2 of what it lies over", RICH, 0, 2, 1, 1, 1);
    }

    /** "of EDGES to CORNERS (1 where it leads to, 1 less where it comes from; 0 of one to the same)". */
    private static void rowsOfEdges() {
        for (int p : MODULI) {
            holes("of one to the same", Story.NEW.text(0, "2;a=0>0;b=1>1"), 0, p, 2, 2, 0);
            holes("of one to another", Story.NEW.text(0, "2;a=0>1"), 0, p, 1, 0, 0);
            holes("of one back", Story.NEW.text(0, "2;a=1>0"), 0, p, 1, 0, 0);
            holes("of two alike", Story.NEW.text(0, "2;a=0>1;b=0>1"), 0, p, 1, 1, 0);
            holes("of two about", Story.NEW.text(0, "2;a=0>1;b=1>0"), 0, p, 1, 1, 0);
            holes("of one to the same ahead of others", Story.NEW.text(0, "3;a=0>0;b=0>1;c=0>2"), 0, p, 1, 1, 0);
            holes("to the last corners first", Story.NEW.text(0, "4;a=3>2;b=2>1;c=1>0;d=3>0"), 0, p, 1, 1, 0);
            holes("apart from corner 0", Story.NEW.text(0, "8;a=6>7;b=7>6"), 0, p, 7, 1, 0);
        }
    }

    /** "of PANES to EDGES (how often a RIM goes along each, less back)". */
    private static void rowsOfPanes() {
        for (int p : MODULI) {
            holes("along, less back", Story.NEW.text(0, "1;a=0>0;:aA"), 0, p, 1, 1, 1);
            holes("along alone", Story.NEW.text(0, "1;a=0>0;:a"), 0, p, 1, 0, 0);
            holes("back alone", Story.NEW.text(0, "1;a=0>0;:A"), 0, p, 1, 0, 0);
            holes("two panes about", Story.NEW.text(0, "1;a=0>0;:a;:A"), 0, p, 1, 0, 1);
            holes("one of nothing ahead of others", Story.NEW.text(0, "1;a=0>0;b=0>0;:aA;:a;:ab"), 0, p, 1, 0, 1);
            holes("the last edges first", Story.NEW.text(0, "1;a=0>0;b=0>0;c=0>0;:c;:bc;:ab;:a"), 0, p, 1, 0, 1);
            holes("twice less once", Story.NEW.text(0, "1;a=0>0;:aaA"), 0, p, 1, 0, 0);
        }
    }

    /** The least SPACE and the greatest, of SPACES and of LAYERS. */
    private static void emptyAndFull() {
        Story edges = Story.NEW.text(0, TWELVE);
        Story panes = Story.NEW.text(0, TWELVE + ";:a;:b;:c;:d;:e;:f;:g;:l");
        Story like = Story.NEW.text(0, TWELVE + ";:l;:l;:l;:l;:l;:l;:l;:l");
        for (int p : MODULI) {
            holes("one corner", Story.NEW, 0, p, 1, 0, 0);
            holes("eight corners", Story.NEW.then("corners", 0, 8), 0, p, 8, 0, 0);
            holes("twelve edges", edges, 0, p, 1, 12, 0);
            holes("eight panes", panes, 0, p, 1, 4, 0);
            holes("eight panes alike", like, 0, p, 1, 11, 7);
        }
        String ring = "8;a=0>1;b=1>2;c=2>3;d=3>4;e=4>5;f=5>6;g=6>7;h=7>0;i=0>0;j=0>0";
        Story greatest = Story.NEW.text(0, ring + ";:i;:j;:aA;:iI;:jj;:ij;:jI;:bB").then("layer", 0, 4, 0);
        for (int p : new int[] {2, 3, 5, 7}) {
            holes("a layer of 32 corners, 40 edges, 32 panes", greatest, 2, p, 1, 1, 24);
        }
    }

    /** "The i-th of BENDS of a SPACE (0, 1). BAD (i below 0); NONE." */
    private static void bendNumbers() {
        Story bent = RICH.then("face", 0).text(1, "1;a=0>0;b=0>0;:aaaa;:bbbbbb");
        BOUNDS.range("a space (0, 1)", bent, 0, 1, BAD, "bend", Bounds.numbers(0, 0), 0);
        BOUNDS.range("a space (0, 1)", Story.NEW, 0, 1, BAD, "bend", Bounds.numbers(0, 0), 0);
        BOUNDS.refuses("i below 0", bent, BAD, "bend", 1, -1);
        BOUNDS.refuses("i below 0", bent, BAD, "bend", 1, Integer.MIN_VALUE);
        BOUNDS.takes("the first", bent, 2, "bend", 1, 0);
        BOUNDS.takes("the last", bent, 12, "bend", 1, 1);
        BOUNDS.refuses("none behind the last", bent, NONE, "bend", 1, 2);
        BOUNDS.refuses("none far behind", bent, NONE, "bend", 1, Integer.MAX_VALUE);
        BOUNDS.refuses("none at all", Story.NEW, NONE, "bend", 0, 0);
        BOUNDS.refuses("bad ahead of none", Story.NEW, BAD, "bend", 0, -1);
        BOUNDS.refuses("bad ahead of none", Story.NEW, BAD, "bend", 2, 8);
        BOUNDS.changesOnly("nothing", bent, EnumSet.noneOf(Story.Part.class), "bend", 1, 0);
    }

    private static void bends(String text, long... due) {
        Story story = Story.NEW.text(0, text);
        for (int i = 0; i < due.length; i++) {
            BOUNDS.takes("bends of " + text, story, due[i], "bend", 0, i);
        }
        BOUNDS.refuses("bends of " + text, story, NONE, "bend", 0, due.length);
    }

    /** "what is above 1 of the numbers d1, d2, .. (each in the next one)"; "from the least on". */
    private static void bendsAboveOne() {
        bends("1;a=0>0;:a");
        bends("1;a=0>0;:aa", 2);
        bends("1;a=0>0;:aA");
        bends("1;a=0>0;b=0>0;:aaaa;:b", 4);
        bends("1;a=0>0;b=0>0;:b;:aaaa", 4);
        bends("1;a=0>0;b=0>0;c=0>0;:aaaaaaaa;:bbbb;:cc", 2, 4, 8);
        bends("1;a=0>0;b=0>0;:aa;:bbb", 6);
        bends("1;a=0>0;b=0>0;:aaa;:bb", 6);
        bends("1;a=0>0;b=0>0;c=0>0;:aa;:bbb;:ccccc", 30);
        bends("1;a=0>0;b=0>0;c=0>0;:aaaaaa;:bbbb;:ccc", 6, 12);
        bends("1;a=0>0;:aaaaaa;:aaaa", 2);
        bends("1;a=0>0;:AA", 2);
        bends("1;a=0>0;b=0>0;:abAB;:aabb", 2);
        bends("2;a=1>1;:aaaaaaa", 7);
        bends("2;a=0>1;b=0>1;:aBaB", 2);
    }

    /** Eight PANES of eight STEPS: as many bends, and as great a one, as there may be. */
    private static void bendsAtTheMost() {
        bends("1;a=0>0;b=0>0;c=0>0;d=0>0;e=0>0;f=0>0;g=0>0;h=0>0;:aa;:bb;:cc;:dd;:ee;:ff;:gg;:hh",
            2, 2, 2, 2, 2, 2, 2, 2);
        String four = "1;a=0>0;b=0>0;c=0>0;d=0>0";
        bends(four + ";:aaaaaaaa;:bbbbbbbb;:cccccccc;:dddddddd", 8, 8, 8, 8);
        Story greatest = Story.NEW;
        for (int e = 0; e < 8; e++) {
            greatest = greatest.then("edge", 0, 0, 0);
        }
        Story eights = greatest;
        for (int e = 0; e < 8; e++) {
            String along = String.valueOf((char) ('a' + e)).repeat(7);
            greatest = greatest.face(0, along + (char) ('a' + (e + 1) % 8));
            eights = eights.face(0, along + (char) ('a' + e));
        }
        BOUNDS.takes("7 to the power of 8 less 1", greatest, 5764800, "bend", 0, 0);
        BOUNDS.takes("no other", greatest, NONE, "bend", 0, 1);
        for (int i = 0; i < 8; i++) {
            BOUNDS.takes("eight eights", eights, 8, "bend", 0, i);
        }
        BOUNDS.takes("no ninth", eights, NONE, "bend", 0, 8);
    }
}
