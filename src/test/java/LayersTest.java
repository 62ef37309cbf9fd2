/** Promises 12 to 18: tables, layers, layer, storeys, moves, lift, moved. */
public final class LayersTest {
    private static final Checks CHECKS = new Checks();
    private static final String TORUS = "1;a=0>0;b=0>0;:abAB";

    public static void main(String[] args) {
        numbers();
        many();
        wrongNumbers();
        order();
        laid();
        laidOverAPart();
        oneBehindTheOther();
        panesOfThePart();
        refusedLayers();
        storeys();
        moves();
        lift();
        liftRefused();
        moved();
        movedRefused();
        CHECKS.end("LayersTest");
    }

    /** Tables and layers of 2, 3, 4 storeys. */
    private static void numbers(String text, int... due) {
        LoopSpaces x = new LoopSpaces();
        Checks.text(x, 1, text);
        for (int n = 2; n <= 4; n++) {
            CHECKS.same(text + ": tables(1, " + n + ")", x.tables(1, n), due[2 * n - 4]);
            CHECKS.same(text + ": layers(1, " + n + ")", x.layers(1, n), due[2 * n - 3]);
        }
    }

    private static void numbers() {
        numbers("1", 1, 0, 1, 0, 1, 0);
        numbers("4;a=2>1;b=0>2;c=3>0", 1, 0, 1, 0, 1, 0);
        numbers("1;a=0>0", 2, 1, 6, 1, 24, 1);
        numbers("1;a=0>0;b=0>0", 4, 3, 36, 7, 576, 26);
        numbers("1;a=0>0;b=0>0;c=0>0", 8, 7, 216, 41, 13824, 604);
        numbers(TORUS, 4, 3, 18, 4, 120, 7);
        numbers("1;a=0>0;b=0>0;:abaB", 4, 3, 18, 2, 120, 5);
        numbers("1;a=0>0;:a", 1, 0, 1, 0, 1, 0);
        numbers("1;a=0>0;:aa", 2, 1, 4, 0, 10, 0);
        numbers("1;a=0>0;:aaa", 1, 0, 3, 1, 9, 0);
        numbers("1;a=0>0;:aaaa", 2, 1, 4, 0, 16, 1);
        numbers("2;a=1>0;b=0>1;:abab", 2, 1, 4, 0, 10, 0);
    }

    private static void many() {
        LoopSpaces x = new LoopSpaces();
        int[] most = {0, 0, 12, 5, 3};
        for (int turns = 1; turns <= 12; turns++) {
            x.edge(0, 0, 0);
            for (int n = 2; n <= 4; n++) {
                boolean isMany = turns > most[n];
                CHECKS.holds("many: " + turns + " turns, " + n + " storeys", isMany == (x.tables(0, n) == LoopSpaces.NOT));
                if (isMany) {
                    CHECKS.same("layers of many", x.layers(0, n), LoopSpaces.NOT);
                    CHECKS.same("layer of many", x.layer(0, n, 0), LoopSpaces.NOT);
                    CHECKS.same("layer of many, far", x.layer(0, n, 100000), LoopSpaces.NOT);
                    CHECKS.same("bad ahead of many", x.layer(0, n, -1), LoopSpaces.BAD);
                }
            }
        }
        CHECKS.same("4096 tables", x.tables(0, 2), 4096);
        CHECKS.same("all but one", x.layers(0, 2), 4095);
        CHECKS.same("the last", x.layer(0, 2, 4094), 23);
        CHECKS.same("none behind", x.layer(0, 2, 4095), LoopSpaces.BAD);
        CHECKS.same("the last stays", x.moves(11, 0), 1);
        CHECKS.same("the last stays", x.moves(0, 0), 1);
        CHECKS.same("its ways round", x.holes(2, 1, 2), 23);
    }

    private static void wrongNumbers() {
        LoopSpaces x = new LoopSpaces();
        Checks.text(x, 0, TORUS);
        x.layer(0, 2, 0);
        int[][] wrong = {{0, 1}, {0, 5}, {0, 0}, {0, -2}, {2, 2}, {-1, 2}, {3, 2}, {0, Integer.MAX_VALUE}};
        for (int[] w : wrong) {
            CHECKS.same("tables " + w[0] + " " + w[1], x.tables(w[0], w[1]), LoopSpaces.BAD);
            CHECKS.same("layers " + w[0] + " " + w[1], x.layers(w[0], w[1]), LoopSpaces.BAD);
            CHECKS.same("layer " + w[0] + " " + w[1], x.layer(w[0], w[1], 0), LoopSpaces.BAD);
        }
    }

    private static void order() {
        LoopSpaces x = new LoopSpaces();
        Checks.text(x, 0, TORUS);
        String[] due = {"012120", "120012", "120120", "120201"};
        for (int i = 0; i < due.length; i++) {
            CHECKS.same("layer(0, 3, " + i + ")", x.layer(0, 3, i), 4);
            for (int turn = 0; turn < 2; turn++) {
                for (int s = 0; s < 3; s++) {
                    CHECKS.same(i + ": moves(" + turn + ", " + s + ")", x.moves(turn, s), due[i].charAt(3 * turn + s) - '0');
                }
            }
        }
        CHECKS.same("four in all", x.layer(0, 3, 4), LoopSpaces.BAD);
    }

    private static void told(LoopSpaces x, int e, int from, int to, int isTree) {
        CHECKS.same("edge " + e + " from", x.told(2, e, 0), from);
        CHECKS.same("edge " + e + " to", x.told(2, e, 1), to);
        CHECKS.same("edge " + e + " tree", x.told(2, e, 2), isTree);
    }

    private static void rim(LoopSpaces x, int f, int... due) {
        for (int i = 0; i < due.length; i++) {
            CHECKS.same("rim(2, " + f + ", " + i + ")", x.rim(2, f, i), due[i]);
        }
        CHECKS.same("rim " + f + " ends", x.rim(2, f, due.length), LoopSpaces.BAD);
    }

    private static void laid() {
        LoopSpaces x = new LoopSpaces();
        Checks.text(x, 0, TORUS);
        CHECKS.same("layer(0, 3, 1)", x.layer(0, 3, 1), 4);
        told(x, 0, 0, 1, 1);
        told(x, 1, 1, 2, 1);
        told(x, 2, 2, 0, 0);
        told(x, 3, 0, 0, 0);
        told(x, 5, 2, 2, 0);
        rim(x, 0, 0, 4, 100, 103);
        rim(x, 2, 2, 3, 102, 105);
        x.corners(0, 4);
        CHECKS.same("it stays as it was laid", x.count(2, 1), 6);
        CHECKS.same("and its table", x.moves(0, 2), 0);
        Checks.text(x, 0, "1;a=0>0");
        CHECKS.same("laid anew", x.layer(0, 2, 0), 1);
        CHECKS.same("its edges", x.count(2, 1), 2);
        CHECKS.same("its panes", x.count(2, 2), 0);
    }

    /** Corners 1 and 3, edges b and d, and one pane are apart. */
    private static void laidOverAPart() {
        LoopSpaces x = new LoopSpaces();
        Checks.text(x, 1, "4;a=2>0;b=3>3;c=0>2;d=1>3;e=2>2;:bb;:ace;:EE");
        CHECKS.same("two turns", x.count(1, 5), 2);
        CHECKS.same("tables", x.tables(1, 2), 2);
        CHECKS.same("layer(1, 2, 0)", x.layer(1, 2, 0), 3);
        CHECKS.same("corners", x.count(2, 0), 4);
        CHECKS.same("edges", x.count(2, 1), 6);
        CHECKS.same("panes", x.count(2, 2), 4);
        told(x, 0, 2, 0, 1);
        told(x, 1, 3, 1, 1);
        told(x, 2, 0, 3, 1);
        told(x, 3, 1, 2, 0);
        told(x, 4, 2, 3, 0);
        told(x, 5, 3, 2, 0);
        rim(x, 0, 0, 2, 5);
        rim(x, 1, 1, 3, 4);
        rim(x, 2, 105, 104);
        rim(x, 3, 104, 105);
    }

    /** c goes as a and then b: of two that change two storeys each the order tells. */
    private static void oneBehindTheOther() {
        LoopSpaces x = new LoopSpaces();
        Checks.text(x, 0, "1;a=0>0;b=0>0;c=0>0;:abC");
        CHECKS.same("as of a and b alone", x.layers(0, 3), 7);
        int unlike = 0;
        for (int i = 0; i < 7; i++) {
            x.layer(0, 3, i);
            for (int s = 0; s < 3; s++) {
                CHECKS.same("layer " + i + ", storey " + s, x.moves(2, s), x.moves(1, x.moves(0, s)));
                unlike += x.moves(2, s) == x.moves(0, x.moves(1, s)) ? 0 : 1;
            }
        }
        CHECKS.holds("b and then a goes elsewhere in some", unlike > 0);
    }

    /** RIMS of one letter where longer ones of another piece were before. */
    private static void panesOfThePart() {
        LoopSpaces x = new LoopSpaces();
        Checks.text(x, 0, "2;a=0>0;b=1>1;:bbbbbbbb;:aaaaaaaa");
        CHECKS.same("a eight times", x.tables(0, 3), 4);
        Checks.text(x, 1, "2;a=0>0;b=1>1;:bbbbbbbb;:aaaaaaaa");
        for (int round = 0; round < 2; round++) {
            Checks.text(x, 0, "2;a=0>0;b=1>1;:a;:b");
            CHECKS.same("a once", x.tables(0, 3), 1);
            Checks.text(x, 0, "2;a=0>0;b=1>1;:b;:b");
            CHECKS.same("a never", x.tables(0, 3), 6);
        }
    }

    private static void refusedLayers() {
        LoopSpaces x = new LoopSpaces();
        Checks.text(x, 0, TORUS);
        CHECKS.same("none such", x.layer(0, 2, 3), LoopSpaces.BAD);
        CHECKS.same("no layer yet", x.storeys(2), LoopSpaces.BAD);
        x.layer(0, 2, 1);
        CHECKS.same("none such", x.layer(0, 4, 7), LoopSpaces.BAD);
        CHECKS.same("none such, far", x.layer(0, 4, Integer.MAX_VALUE), LoopSpaces.BAD);
        CHECKS.same("below 0", x.layer(0, 4, -1), LoopSpaces.BAD);
        CHECKS.same("it stays", x.storeys(2), 2);
        CHECKS.same("it stays", x.moves(0, 0), 1);
    }

    private static void storeys() {
        LoopSpaces x = new LoopSpaces();
        CHECKS.same("storeys(2), none", x.storeys(2), LoopSpaces.BAD);
        Checks.text(x, 0, TORUS);
        for (int n = 2; n <= 4; n++) {
            x.layer(0, n, 0);
            CHECKS.same("storeys(2)", x.storeys(2), n);
        }
        CHECKS.same("storeys(0)", x.storeys(0), LoopSpaces.CAST);
        CHECKS.same("storeys(1)", x.storeys(1), LoopSpaces.CAST);
        CHECKS.same("storeys(3)", x.storeys(3), LoopSpaces.BAD);
        CHECKS.same("storeys(-1)", x.storeys(-1), LoopSpaces.BAD);
    }

    private static void moves() {
        LoopSpaces x = new LoopSpaces();
        CHECKS.same("no layer, ahead of bad", x.moves(-1, 9), LoopSpaces.NONE);
        Checks.text(x, 0, TORUS);
        x.layer(0, 2, 0);
        int[][] wrong = {{-1, 0}, {2, 0}, {0, -1}, {0, 2}};
        for (int[] w : wrong) {
            CHECKS.same("moves " + w[0] + " " + w[1], x.moves(w[0], w[1]), LoopSpaces.BAD);
        }
        CHECKS.same("moves(1, 1)", x.moves(1, 1), 0);
    }

    private static void lift(LoopSpaces x, String word, int... due) {
        Checks.word(x, 3, 0, word);
        for (int s = 0; s < due.length; s++) {
            CHECKS.same("lift of " + word + " from " + s, x.lift(3, s), due[s]);
        }
    }

    private static void lift() {
        LoopSpaces x = new LoopSpaces();
        Checks.text(x, 0, TORUS);
        x.layer(0, 3, 3);
        lift(x, "", 0, 1, 2);
        lift(x, "a", 1, 2, 0);
        lift(x, "A", 2, 0, 1);
        lift(x, "b", 2, 0, 1);
        lift(x, "ab", 0, 1, 2);
        lift(x, "aaB", 0, 1, 2);
        lift(x, "aB", 2, 0, 1);
        Checks.text(x, 0, "1;a=0>0;b=0>0");
        int found = 0;
        for (int i = 0; i < 7 && found == 0; i++) {
            x.layer(0, 3, i);
            found = x.moves(0, 0) == 0 && x.moves(1, 0) == 1 && x.moves(1, 1) == 0 ? 1 : 0;
        }
        CHECKS.same("a: 1 and 2 change, b: 0 and 1", found, 1);
        lift(x, "ab", 1, 2, 0);
        lift(x, "ba", 2, 0, 1);
        Checks.text(x, 0, "2;a=0>1;b=0>1");
        x.layer(0, 2, 0);
        lift(x, "a", 0, 1);
        lift(x, "b", 1, 0);
        lift(x, "aB", 1, 0);
    }

    private static void liftRefused() {
        LoopSpaces x = new LoopSpaces();
        Checks.text(x, 0, "2;a=0>0;b=1>1;c=0>0");
        Checks.word(x, 0, 0, "a");
        CHECKS.same("no layer, ahead of bad", x.lift(9, 9), LoopSpaces.NONE);
        x.layer(0, 2, 0);
        CHECKS.same("slot 4", x.lift(4, 0), LoopSpaces.BAD);
        CHECKS.same("slot -1", x.lift(-1, 0), LoopSpaces.BAD);
        CHECKS.same("storey 2", x.lift(0, 2), LoopSpaces.BAD);
        CHECKS.same("storey -1", x.lift(0, -1), LoopSpaces.BAD);
        CHECKS.same("bad ahead of not", x.lift(1, 2), LoopSpaces.BAD);
        CHECKS.same("none held", x.lift(1, 0), LoopSpaces.NOT);
        Checks.word(x, 1, 1, "");
        CHECKS.same("of the other space", x.lift(1, 0), LoopSpaces.NOT);
        Checks.word(x, 1, 0, "b");
        CHECKS.same("not from corner 0", x.lift(1, 0), LoopSpaces.NOT);
        Checks.word(x, 1, 0, "bB");
        CHECKS.same("not from corner 0, without steps", x.lift(1, 0), LoopSpaces.NOT);
        x.edge(0, 0, 0);
        Checks.word(x, 1, 0, "ad");
        CHECKS.same("an edge that was not", x.lift(1, 0), LoopSpaces.NOT);
        Checks.word(x, 1, 0, "Da");
        CHECKS.same("an edge that was not, first", x.lift(1, 0), LoopSpaces.NOT);
        CHECKS.same("the other word", x.lift(0, 1), 1);
        Checks.text(x, 0, "1;a=0>0;b=0>0;c=0>0");
        Checks.word(x, 0, 0, "ab");
        CHECKS.same("b was not of the part", x.lift(0, 0), LoopSpaces.NOT);
        Checks.word(x, 0, 0, "ba");
        CHECKS.same("b was not of the part, first", x.lift(0, 0), LoopSpaces.NOT);
        Checks.word(x, 0, 0, "ac");
        CHECKS.same("by numbers of edges", x.lift(0, 0), 1);
    }

    private static void moved(String text, String word, int due) {
        LoopSpaces x = new LoopSpaces();
        Checks.text(x, 1, text);
        Checks.word(x, 2, 1, word);
        CHECKS.same(text + ": " + word + " moved", x.moved(2), due);
    }

    private static void moved() {
        moved("1", "", LoopSpaces.NONE);
        moved("1;a=0>0", "", LoopSpaces.NONE);
        moved("1;a=0>0", "a", 2);
        moved("1;a=0>0", "aa", 3);
        moved("1;a=0>0", "aaaaaa", 4);
        moved("1;a=0>0", "aaaaaaaaaaaa", LoopSpaces.NONE);
        moved("1;a=0>0;:a", "a", LoopSpaces.NONE);
        moved("1;a=0>0;:aaa", "AA", 3);
        moved("1;a=0>0;:aaaa", "aa", 4);
        moved("1;a=0>0;:aaaaa", "a", LoopSpaces.NONE);
        moved("1;a=0>0;b=0>0", "abAB", 3);
        moved(TORUS, "abAB", LoopSpaces.NONE);
        moved("2;a=0>1;b=1>0", "aA", LoopSpaces.NONE);
        moved("2;a=0>1;b=1>0", "ab", 2);
        moved("2;a=0>1;b=1>0;:abab", "BA", 2);
        moved("3;a=0>0;b=1>1;:b", "a", 2);
        String five = "1;a=0>0;b=0>0;c=0>0;d=0>0;e=0>0";
        moved(five + ";:aaa", "a", 3);
        moved(five + ";f=0>0;:aaa", "a", LoopSpaces.NONE);
        moved(five + ";f=0>0;:aaa", "b", 2);
    }

    private static void movedRefused() {
        LoopSpaces x = new LoopSpaces();
        Checks.text(x, 0, "2;a=0>1;b=1>1");
        CHECKS.same("moved(4)", x.moved(4), LoopSpaces.BAD);
        CHECKS.same("moved(-1)", x.moved(-1), LoopSpaces.BAD);
        CHECKS.same("holds none", x.moved(0), LoopSpaces.NOT);
        Checks.word(x, 0, 0, "a");
        CHECKS.same("does not lead back", x.moved(0), LoopSpaces.NOT);
        Checks.word(x, 0, 0, "b");
        CHECKS.same("not from corner 0", x.moved(0), LoopSpaces.NOT);
        Checks.word(x, 0, 0, "abA");
        CHECKS.same("from corner 0 back", x.moved(0), 2);
        Checks.face(x, 0, "bbb");
        CHECKS.same("with a new pane", x.moved(0), 3);
        Checks.face(x, 0, "b");
        CHECKS.same("with another pane", x.moved(0), LoopSpaces.NONE);
    }
}
