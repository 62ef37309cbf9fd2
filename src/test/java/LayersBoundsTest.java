import java.util.EnumSet;

/** Promises 12 to 18: each bound that the document names, each refusal, the first of several. */
public final class LayersBoundsTest {
    private static final int BAD = LoopSpaces.BAD;
    private static final int NOT = LoopSpaces.NOT;
    private static final int NONE = LoopSpaces.NONE;
    private static final int CAST = LoopSpaces.CAST;
    private static final Bounds BOUNDS = new Bounds();
    private static final Story RICH = Bounds.RICH;
    private static final Story BARE = RICH.then("face", 0);
    private static final String TORUS = "1;a=0>0;b=0>0;:abAB";

    public static void main(String[] args) {
        tableNumbers();
        many();
        manyOfTurnsAlone();
        holdOfThePart();
        layerNumbers();
        layerMany();
        layerAsThatIsNow();
        layerSizes();
        storeys();
        moveNumbers();
        liftNumbers();
        liftNot();
        liftAsLaid();
        movedNumbers();
        movedLeast();
        movedMany();
        BOUNDS.end("LayersBoundsTest", "tables BAD NOT", "layers BAD NOT", "layer BAD NOT", "storeys BAD CAST",
            "moves NONE BAD", "lift NONE BAD NOT", "moved BAD NOT NONE");
    }

    private static String loops(int turns) {
        StringBuilder text = new StringBuilder("1");
        for (int e = 0; e < turns; e++) {
            text.append(';').append((char) ('a' + e)).append("=0>0");
        }
        return text.toString();
    }

    /** "A TABLE of n STOREYS (2 .. 4)"; of SPACES 0, 1. */
    private static void tableNumbers() {
        for (String call : new String[] {"tables", "layers"}) {
            BOUNDS.range("a space (0, 1)", Story.NEW, 0, 1, BAD, call, Bounds.numbers(0, 2), 0);
            BOUNDS.range("a space (0, 1)", RICH, 0, 1, BAD, call, Bounds.numbers(0, 2), 0);
            BOUNDS.range("n 2 .. 4", Story.NEW, 2, 4, BAD, call, Bounds.numbers(0, 0), 1);
            BOUNDS.range("n 2 .. 4", RICH, 2, 4, BAD, call, Bounds.numbers(1, 0), 1);
            for (int n = 2; n <= 4; n++) {
                BOUNDS.changesOnly("nothing", RICH, EnumSet.noneOf(Story.Part.class), call, 0, n);
            }
        }
        int[] tables = {2, 6, 24};
        for (int n = 2; n <= 4; n++) {
            BOUNDS.takes("no turn: one table", Story.NEW, 1, "tables", 0, n);
            BOUNDS.takes("no turn: none is one", Story.NEW, 0, "layers", 0, n);
            BOUNDS.takes("one turn", Story.NEW.text(0, loops(1)), tables[n - 2], "tables", 0, n);
            BOUNDS.takes("one turn: all that are one are like", Story.NEW.text(0, loops(1)), 1, "layers", 0, n);
        }
    }

    /** "MANY: n (n - 1) .. 1 to the power of TURNS is above 20000." */
    private static void many() {
        int[] most = {12, 5, 3};
        int[] tables = {4096, 7776, 13824};
        for (int n = 2; n <= 4; n++) {
            Story last = BARE.text(0, loops(most[n - 2]));
            BOUNDS.takes("not yet many", last, tables[n - 2], "tables", 0, n);
            BOUNDS.takes("not yet many, a layer", last, n * most[n - 2] - n + 1, "layer", 0, n, 0);
            for (int turns = most[n - 2] + 1; turns <= 12; turns++) {
                Story story = BARE.text(0, loops(turns));
                BOUNDS.refuses("many", story, NOT, "tables", 0, n);
                BOUNDS.refuses("many", story, NOT, "layers", 0, n);
                BOUNDS.refuses("many", story, NOT, "layer", 0, n, 0);
            }
        }
        Story all = BARE.text(0, loops(12));
        for (String call : new String[] {"tables", "layers"}) {
            BOUNDS.refuses("bad ahead of many", all, BAD, call, 0, 5);
            BOUNDS.refuses("bad ahead of many", all, BAD, call, 2, 4);
        }
        BOUNDS.takes("many, though rims hold few", BARE.text(0, loops(4) + ";:a;:b;:c;:d"), NOT, "tables", 0, 4);
    }

    /** EDGES of THE TREE and EDGES that are not of THE PART are no TURNS. */
    private static void manyOfTurnsAlone() {
        String tree = "8;a=0>1;b=1>2;c=2>3;d=3>4;e=4>5;f=5>6;g=6>7";
        Story three = BARE.text(0, tree + ";h=7>0;i=0>0;j=7>7");
        BOUNDS.takes("three turns of ten edges", three, 13824, "tables", 0, 4);
        BOUNDS.refuses("four turns of eleven edges", three.then("edge", 0, 1, 0), NOT, "tables", 0, 4);
        BOUNDS.takes("four turns, n 3", three.then("edge", 0, 1, 0), 1296, "tables", 0, 3);
        Story apart = BARE.text(0, "3;a=1>1;b=1>1;c=1>2;d=2>2;e=1>2;f=2>1;g=0>0;h=0>0;i=0>0");
        BOUNDS.takes("three turns, six edges apart", apart, 13824, "tables", 0, 4);
        BOUNDS.refuses("led to by one more edge", apart.then("edge", 0, 0, 2), NOT, "tables", 0, 4);
        BOUNDS.refuses("led to by one more edge", apart.then("edge", 0, 0, 2), NOT, "layers", 0, 3);
    }

    /** "It HOLDS, if RIMS of all PANES of THE PART move none." */
    private static void holdOfThePart() {
        BOUNDS.takes("a pane of the part", Story.NEW.text(0, "2;a=0>0;b=1>1;:a"), 1, "tables", 0, 4);
        BOUNDS.takes("a pane apart", Story.NEW.text(0, "2;a=0>0;b=1>1;:b"), 24, "tables", 0, 4);
        BOUNDS.takes("all panes", Story.NEW.text(0, "1;a=0>0;:aa;:aaa"), 1, "tables", 0, 4);
        BOUNDS.takes("a rim of the tree alone", Story.NEW.text(0, "2;a=0>1;b=1>1;:aA"), 6, "tables", 0, 3);
        BOUNDS.takes("back is the other way", Story.NEW.text(0, "1;a=0>0;:aA"), 6, "tables", 0, 3);
        BOUNDS.takes("back is the other way", Story.NEW.text(0, "1;a=0>0;b=0>0;:aB"), 6, "tables", 0, 3);
        BOUNDS.takes("eight panes", Story.NEW.text(0, "1;a=0>0;:aA;:aA;:aA;:aA;:aA;:aA;:aA;:aaa"), 3, "tables", 0, 3);
    }

    /** "the i-th of n STOREYS over a SPACE (0, 1) .. BAD: also none such". */
    private static void layerNumbers() {
        BOUNDS.range("a space (0, 1)", RICH, 0, 1, BAD, "layer", Bounds.numbers(0, 2, 0), 0);
        BOUNDS.range("a space (0, 1)", Story.NEW.text(0, TORUS).text(1, TORUS), 0, 1, BAD, "layer",
            Bounds.numbers(0, 2, 0), 0);
        BOUNDS.range("n 2 .. 4", RICH, 2, 4, BAD, "layer", Bounds.numbers(1, 0, 0), 1);
        int[] layers = {3, 4, 7};
        for (int n = 2; n <= 4; n++) {
            BOUNDS.range("none such", RICH, 0, layers[n - 2] - 1, BAD, "layer", Bounds.numbers(1, n, 0), 2);
            BOUNDS.refuses("none at all", Story.NEW, BAD, "layer", 0, n, 0);
            BOUNDS.refuses("none such", RICH, BAD, "layer", 0, 4, n);
        }
        BOUNDS.refuses("none such, the first", RICH, BAD, "layer", 0, 3, 0);
        BOUNDS.takes("how many turns", RICH, 3, "layer", 0, 2, 0);
        BOUNDS.changesOnly("the layer alone", RICH, EnumSet.of(Story.Part.LAYER), "layer", 1, 4, 6);
        BOUNDS.changesOnly("the layer alone", BARE.text(0, TORUS), EnumSet.of(Story.Part.LAYER), "layer", 0, 2, 2);
    }

    /** "BAD: also none such; NOT: MANY." */
    private static void layerMany() {
        Story many = BARE.text(0, loops(6));
        BOUNDS.refuses("many", many, NOT, "layer", 0, 3, 0);
        BOUNDS.refuses("many", many, NOT, "layer", 0, 4, 0);
        BOUNDS.refuses("bad ahead of many", many, BAD, "layer", 0, 3, -1);
        BOUNDS.refuses("bad ahead of many", many, BAD, "layer", 0, 5, 0);
        BOUNDS.refuses("bad ahead of many", many, BAD, "layer", 2, 3, 0);
        BOUNDS.takes("n 2 is not many", many, 11, "layer", 0, 2, 62);
        BOUNDS.refuses("none such", many, BAD, "layer", 0, 2, 63);
    }

    /** "as that is now": what comes of the SPACE behind it does not change THE LAYER. */
    private static void layerAsThatIsNow() {
        Story told = BARE.typed("8;a=7>7");
        BOUNDS.changesOnly("a text behind", told, EnumSet.of(Story.Part.SPACE_0, Story.Part.SLOT_0, Story.Part.SLOT_2,
            Story.Part.TAPE), "text", 0);
        BOUNDS.changesOnly("a fold behind", BARE, EnumSet.of(Story.Part.SPACE_0, Story.Part.SLOT_0, Story.Part.SLOT_2),
            "fold", 0);
        BOUNDS.changesOnly("a join behind", BARE, EnumSet.of(Story.Part.SPACE_0, Story.Part.SLOT_0, Story.Part.SLOT_2),
            "join");
        BOUNDS.changesOnly("an edge behind", BARE, EnumSet.of(Story.Part.SPACE_0), "edge", 0, 0, 0);
        BOUNDS.takes("laid anew, as it is now", BARE.then("edge", 0, 0, 0), 5, "layer", 0, 2, 0);
        BOUNDS.takes("as it is now", BARE.then("edge", 0, 0, 0).then("layer", 0, 2, 0), 10, "count", 2, 1);
    }

    /** From the least to the greatest: CORNERS, EDGES, PANES times STOREYS. */
    private static void layerSizes() {
        for (int n = 2; n <= 4; n++) {
            Story least = BARE.text(0, loops(1)).then("layer", 0, n, 0);
            int[] due = {n, n, 0, 0, n, 1};
            for (int what = 0; what < due.length; what++) {
                BOUNDS.takes("the least", least, due[what], "count", 2, what);
            }
            // beyond ten edges there would be a fourth turn, and of 4 storeys that is many
            int edges = n == 4 ? 10 : 12;
            String most = "8;a=0>1;b=1>2;c=2>3;d=3>4;e=4>5;f=5>6;g=6>7;h=7>0;i=0>0;j=7>7;k=7>7;l=7>7"
                .substring(0, 1 + 6 * edges) + (edges == 12 ? ";:k;:l" : ";:i;:i") + ";:i;:j;:aA;:iI;:gjG;:jj";
            Story greatest = BARE.text(0, most).then("layer", 0, n, 0);
            int[] all = {8 * n, edges * n, 8 * n, (16 - edges) * n, 8 * n, (edges - 8) * n + 1};
            for (int what = 0; what < all.length; what++) {
                BOUNDS.takes("the greatest", greatest, all[what], "count", 2, what);
            }
            BOUNDS.range("its edges", greatest, 0, edges * n - 1, BAD, "told", Bounds.numbers(2, 0, 0), 1);
            BOUNDS.range("its panes", greatest, 0, 8 * n - 1, BAD, "rim", Bounds.numbers(2, 0, 0), 1);
            BOUNDS.takes("its last edge", greatest, 8 * n - 1, "told", 2, edges * n - 1, 0);
            BOUNDS.takes("its last step", greatest, 10 * n - 1, "rim", 2, 8 * n - 1, 1);
        }
    }

    /** "STOREYS of a SPACE that is a LAYER. BAD (0 .. 2; 2 without a LAYER); CAST." */
    private static void storeys() {
        for (Story story : new Story[] {RICH, Story.NEW}) {
            BOUNDS.refuses("no layer", story, CAST, "storeys", 0);
            BOUNDS.refuses("no layer", story, CAST, "storeys", 1);
            BOUNDS.refuses("0 .. 2", story, BAD, "storeys", -1);
            BOUNDS.refuses("0 .. 2", story, BAD, "storeys", 3);
            BOUNDS.refuses("0 .. 2", story, BAD, "storeys", Integer.MIN_VALUE);
            BOUNDS.refuses("0 .. 2", story, BAD, "storeys", Integer.MAX_VALUE);
        }
        BOUNDS.refuses("2 without a layer", Story.NEW, BAD, "storeys", 2);
        for (int n = 2; n <= 4; n++) {
            BOUNDS.takes("of a layer", RICH.then("layer", 1, n, 0), n, "storeys", 2);
        }
        BOUNDS.changesOnly("nothing", RICH, EnumSet.noneOf(Story.Part.class), "storeys", 2);
    }

    /** "The STOREY to which THE LAYER's TABLE moves one by a TURN of what it lies over. NONE: no LAYER; BAD." */
    private static void moveNumbers() {
        for (int turn = -1; turn <= 2; turn++) {
            for (int storey = -1; storey <= 4; storey++) {
                BOUNDS.refuses("no layer, ahead of bad", Story.NEW, NONE, "moves", turn, storey);
            }
        }
        for (int n = 2; n <= 4; n++) {
            Story story = RICH.then("layer", 1, n, 0);
            BOUNDS.range("a turn", story, 0, 1, BAD, "moves", Bounds.numbers(0, 0), 0);
            BOUNDS.range("a storey", story, 0, n - 1, BAD, "moves", Bounds.numbers(1, 0), 1);
        }
        Story twelve = BARE.text(0, loops(12)).then("layer", 0, 2, 0);
        BOUNDS.range("twelve turns", twelve, 0, 11, BAD, "moves", Bounds.numbers(0, 1), 0);
        BOUNDS.takes("the first layer moves by the last turn", twelve, 1, "moves", 11, 0);
        BOUNDS.takes("and by none ahead", twelve, 0, "moves", 10, 0);
        Story turns = BARE.text(0, "2;a=0>1;b=1>1;c=1>1;:b").then("layer", 0, 2, 0);
        BOUNDS.range("turns, not edges", turns, 0, 1, BAD, "moves", Bounds.numbers(0, 1), 0);
        BOUNDS.takes("turns in their order", turns, 1, "moves", 0, 1);
        BOUNDS.takes("turns in their order", turns, 0, "moves", 1, 1);
        BOUNDS.range("as they were", twelve.then("corners", 0, 1), 0, 11, BAD, "moves", Bounds.numbers(0, 1), 0);
        BOUNDS.changesOnly("nothing", RICH, EnumSet.noneOf(Story.Part.class), "moves", 0, 0);
    }

    /** "NONE: no LAYER; BAD; NOT". */
    private static void liftNumbers() {
        Story unlaid = Story.NEW.text(0, TORUS).word(0, 0, "a");
        for (int slot = -1; slot <= 4; slot++) {
            for (int storey = -1; storey <= 4; storey++) {
                BOUNDS.refuses("no layer, ahead of bad and not", unlaid, NONE, "lift", slot, storey);
            }
        }
        Story words = RICH.then("face", 0).word(1, 0, "aA").word(3, 0, "aDA");
        BOUNDS.range("a slot 0 .. 3", words, 0, 3, BAD, "lift", Bounds.numbers(0, 1), 0);
        BOUNDS.range("a storey", words, 0, 1, BAD, "lift", Bounds.numbers(2, 0), 1);
        for (int n = 2; n <= 4; n++) {
            Story story = BARE.text(0, loops(1)).then("layer", 0, n, 0).word(0, 0, "a");
            BOUNDS.range("a storey", story, 0, n - 1, BAD, "lift", Bounds.numbers(0, 0), 1);
            BOUNDS.takes("from the last", story, 0, "lift", 0, n - 1);
            BOUNDS.takes("from the first", story, 1, "lift", 0, 0);
        }
        BOUNDS.refuses("bad ahead of not", RICH, BAD, "lift", 3, 2);
        BOUNDS.refuses("bad ahead of not", RICH, BAD, "lift", 1, -1);
        BOUNDS.changesOnly("nothing", RICH, EnumSet.noneOf(Story.Part.class), "lift", 2, 1);
    }

    /** "NOT: the SLOT holds none, it is of the other SPACE, has an EDGE that was not of THE PART, or is not from CORNER 0." */
    private static void liftNot() {
        BOUNDS.refuses("holds none", RICH, NOT, "lift", 3, 0);
        BOUNDS.refuses("of the other space", RICH, NOT, "lift", 1, 0);
        BOUNDS.refuses("of the other space", RICH.then("layer", 1, 2, 0), NOT, "lift", 0, 0);
        BOUNDS.takes("of the space", RICH.then("layer", 1, 2, 0), 1, "lift", 1, 0);
        BOUNDS.refuses("of the other space, no steps", BARE.word(3, 1, ""), NOT, "lift", 3, 0);
        BOUNDS.takes("of the space, no steps", BARE.word(3, 0, ""), 1, "lift", 3, 1);
        BOUNDS.refuses("not from corner 0", BARE.word(3, 0, "d"), NOT, "lift", 3, 0);
        BOUNDS.refuses("not from corner 0, to corner 0", BARE.word(3, 0, "bc"), NOT, "lift", 3, 0);
        BOUNDS.refuses("not from corner 0, no steps", BARE.word(3, 0, "dD"), NOT, "lift", 3, 0);
        BOUNDS.takes("from corner 0, not back", BARE.word(3, 0, "ad"), 1, "lift", 3, 0);
        BOUNDS.takes("a new layer does not need a new word", RICH.then("layer", 0, 2, 0), 1, "lift", 2, 0);
    }

    /** "(by numbers of EDGES, as they were when it was laid)". */
    private static void liftAsLaid() {
        Story apart = BARE.text(0, "2;a=0>0;b=1>1;c=0>0").then("layer", 0, 2, 0);
        Story more = apart.then("edge", 0, 0, 0).then("edge", 0, 0, 1);
        BOUNDS.takes("edges that were", more.word(0, 0, "ac"), 1, "lift", 0, 0);
        BOUNDS.refuses("an edge that was not yet", more.word(0, 0, "d"), NOT, "lift", 0, 0);
        BOUNDS.refuses("an edge that was not yet, the last step", more.word(0, 0, "acD"), NOT, "lift", 0, 0);
        BOUNDS.refuses("an edge that was not yet, the first step", more.word(0, 0, "Dac"), NOT, "lift", 0, 0);
        BOUNDS.refuses("an edge that was not of the part", more.word(0, 0, "ebE"), NOT, "lift", 0, 0);
        Story anew = apart.text(0, loops(3));
        BOUNDS.refuses("an edge that was not of the part", anew.word(0, 0, "b"), NOT, "lift", 0, 0);
        BOUNDS.refuses("an edge that was not of the part", anew.word(0, 0, "cBa"), NOT, "lift", 0, 0);
        BOUNDS.takes("by numbers of edges", anew.word(0, 0, "c"), 1, "lift", 0, 0);
        BOUNDS.takes("by numbers of edges", anew.word(0, 0, "a"), 0, "lift", 0, 0);
        BOUNDS.takes("a word that reduces", anew.word(0, 0, "bBc"), 1, "lift", 0, 0);
        Story tree = BARE.text(0, "2;a=0>1;b=1>0").then("layer", 0, 2, 0).text(0, "1;a=0>0;b=0>0");
        BOUNDS.takes("what was of the tree moves none", tree.word(0, 0, "aaa"), 0, "lift", 0, 0);
        BOUNDS.takes("what was a turn moves", tree.word(0, 0, "bbb"), 1, "lift", 0, 0);
        Story gone = apart.then("corners", 0, 1).word(0, 0, "");
        BOUNDS.takes("no step of a space without edges", gone, 1, "lift", 0, 1);
        Story longest = apart.word(0, 0, "a".repeat(15) + "c");
        BOUNDS.takes("sixteen steps", longest, 1, "lift", 0, 0);
        BOUNDS.takes("sixteen steps", apart.word(0, 0, "c".repeat(16)), 0, "lift", 0, 0);
    }

    /** "BAD; NOT: it holds none, or does not lead from CORNER 0 back; NONE." */
    private static void movedNumbers() {
        Story words = RICH.then("face", 0).word(1, 0, "aA").word(3, 0, "adA");
        BOUNDS.range("a slot 0 .. 3", words, 0, 3, BAD, "moved", Bounds.numbers(0), 0);
        BOUNDS.range("a slot 0 .. 3", Story.NEW, 0, 3, BAD, "moved", Bounds.numbers(0), 0);
        BOUNDS.refuses("holds none", RICH, NOT, "moved", 3);
        BOUNDS.refuses("does not lead back", BARE.word(3, 0, "a"), NOT, "moved", 3);
        BOUNDS.refuses("does not lead back", BARE.word(3, 0, "ad"), NOT, "moved", 3);
        BOUNDS.refuses("not from corner 0", BARE.word(3, 0, "d"), NOT, "moved", 3);
        BOUNDS.refuses("not from corner 0", BARE.word(3, 0, "bc"), NOT, "moved", 3);
        BOUNDS.refuses("not from corner 0, no steps", BARE.word(3, 0, "dD"), NOT, "moved", 3);
        BOUNDS.refuses("no steps", BARE.word(3, 0, ""), NONE, "moved", 3);
        BOUNDS.refuses("not moved", RICH, NONE, "moved", 0);
        BOUNDS.changesOnly("nothing", RICH, EnumSet.noneOf(Story.Part.class), "moved", 2);
    }

    private static void moved(String sentence, String text, String word, int due) {
        BOUNDS.takes(sentence + " " + word, BARE.text(0, text).word(3, 0, word), due, "moved", 3);
    }

    /** "The least n (2 .. 4 ..) by which a SLOT's WORD is MOVED." */
    private static void movedLeast() {
        moved("by 2", loops(1), "a", 2);
        moved("by 2", loops(1), "aaaaa", 2);
        moved("by 3", loops(1), "aa", 3);
        moved("by 3", loops(1), "AAAA", 3);
        moved("by 4", loops(1), "aaaaaa", 4);
        moved("by none", loops(1), "aaaaaaaaaaaa", NONE);
        moved("by 3, not by 2", loops(1) + ";:aaa", "a", 3);
        moved("by 4, not by 2", loops(1) + ";:aaaa", "aa", 4);
        moved("by none", loops(1) + ";:aaaaa", "a", NONE);
        moved("by none", loops(1) + ";:aaaaaaa", "a", NONE);
        moved("by 2", loops(1) + ";:aaaaaaaa", "a", 2);
        moved("by 4", loops(1) + ";:aaaaaaaa", "aa", 4);
        moved("by none", loops(1) + ";:aaaaaaaa", "aaaa", NONE);
        moved("by a table that is not one", "1;a=0>0;:aa", "a", 2);
    }

    /** "MANY ones are left out". */
    private static void movedMany() {
        moved("3 is not many", loops(5) + ";:aaa", "a", 3);
        moved("3 is many", loops(6) + ";:aaa", "a", NONE);
        moved("3 is many, 2 is not", loops(6) + ";:aaa", "b", 2);
        moved("4 is not many", loops(3) + ";:aaaa", "aa", 4);
        moved("4 is many", loops(4) + ";:aaaa", "aa", NONE);
        moved("4 is many, 3 is not", loops(4) + ";:aaaa", "bb", 3);
        moved("2 is never many", loops(12), "l", 2);
        moved("3 and 4 are many", loops(12), "ll", NONE);
        moved("edges of the tree and apart do not count", "4;a=0>1;b=1>2;c=3>3;d=3>3;e=0>0;f=0>0;g=0>0;:eeee", "ee", 4);
    }
}
