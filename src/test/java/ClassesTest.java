/** Promises 24 to 27: product, nought, fold, join. */
public final class ClassesTest {
    private static final Checks CHECKS = new Checks();
    private static final String TORUS = "1;a=0>0;b=0>0;:abAB";

    public static void main(String[] args) {
        products();
        productsRefused();
        noughts();
        folds();
        joins();
        joinsRefused();
        CHECKS.end("ClassesTest");
    }

    private static void product(String text, int a, int b, int due) {
        LoopSpaces x = new LoopSpaces();
        Checks.text(x, 1, text);
        CHECKS.same(text + ": product " + a + " " + b, x.product(1, a, b), due);
    }

    private static void products() {
        product(TORUS, 1, 2, 1);
        product(TORUS, 2, 1, 1);
        product(TORUS, 1, 1, 0);
        product(TORUS, 3, 3, 0);
        product("1;a=0>0;:aa", 1, 1, 1);
        product("1;a=0>0;:AA", 1, 1, 1);
        product("1;a=0>0;:aA", 1, 1, 0);
        product("1;a=0>0;:Aa", 1, 1, 0);
        product("1;a=0>0;:aaaa", 1, 1, 0);
        product("1;a=0>0;:aa;:aaaa;:AA", 1, 1, 5);
        product("1;a=0>0;b=0>0;:aabb", 1, 1, 1);
        product("1;a=0>0;b=0>0;:aabb", 1, 2, 0);
        product("1;a=0>0;b=0>0;:abab", 1, 2, 1);
        product("1", 0, 0, 0);
        product("2;a=0>1;b=1>1;:aA", 3, 2, 0);
        product("1;a=0>0;b=0>0;c=0>0;d=0>0;e=0>0;f=0>0;g=0>0;h=0>0;i=0>0;j=0>0;k=0>0;l=0>0"
            + ";:a;:b;:c;:d;:e;:f;:g;:ll", 2048, 2048, 128);
    }

    private static void productsRefused() {
        LoopSpaces x = new LoopSpaces();
        Checks.text(x, 0, "1;a=0>0;b=0>0;:aaa;:abA");
        x.layer(0, 2, 0);
        int[][] bad = {{0, 4, 0}, {0, 0, 4}, {0, -1, 0}, {0, 0, -1}, {2, 0, 0}, {-1, 0, 0}, {1, 1, 0},
            {0, 1, 4}, {0, Integer.MIN_VALUE, 0}, {0, 0, 1 << 30}};
        for (int[] w : bad) {
            CHECKS.same("product " + w[0] + " " + w[1] + " " + w[2], x.product(w[0], w[1], w[2]), LoopSpaces.BAD);
        }
        CHECKS.same("no class first", x.product(0, 1, 0), LoopSpaces.NOT);
        CHECKS.same("no class behind", x.product(0, 0, 2), LoopSpaces.NOT);
        CHECKS.same("nothing is a class", x.product(0, 0, 0), 0);
    }

    private static void noughts() {
        LoopSpaces x = new LoopSpaces();
        CHECKS.same("no panes", x.nought(0, 0), 1);
        CHECKS.same("no pane 0", x.nought(0, 1), LoopSpaces.BAD);
        Checks.text(x, 0, "1;a=0>0;b=0>0;c=0>0;:abC;:aBc;:Bcaa;:aa;:cab");
        // odd panes of a: 0, 1, 4; of b and of c: 0, 1, 2, 4
        for (int faces = 0; faces < 32; faces++) {
            boolean isSum = faces == 0 || faces == 19 || faces == 23 || faces == 4;
            CHECKS.same("nought(0, " + faces + ")", x.nought(0, faces), isSum ? 1 : 0);
        }
        CHECKS.same("nought(0, 32)", x.nought(0, 32), LoopSpaces.BAD);
        CHECKS.same("nought(0, -1)", x.nought(0, -1), LoopSpaces.BAD);
        x.layer(0, 2, 0);
        CHECKS.same("nought(2, 0)", x.nought(2, 0), LoopSpaces.BAD);
        CHECKS.same("nought(-1, 0)", x.nought(-1, 0), LoopSpaces.BAD);
        Checks.text(x, 1, "1;a=0>0;:a;:a;:a;:a;:a;:a;:a;:a");
        CHECKS.same("all eight", x.nought(1, 255), 1);
        CHECKS.same("all but one", x.nought(1, 254), 0);
        CHECKS.same("a ninth", x.nought(1, 256), LoopSpaces.BAD);
    }

    private static void folds() {
        LoopSpaces x = new LoopSpaces();
        CHECKS.same("fold(2)", x.fold(2), LoopSpaces.BAD);
        CHECKS.same("fold(-1)", x.fold(-1), LoopSpaces.BAD);
        CHECKS.same("nothing to fold", x.fold(0), 0);
        Checks.text(x, 0, TORUS);
        CHECKS.same("torus", x.fold(0), 0);
        CHECKS.same("it stays", x.count(0, 2), 1);
        x.layer(0, 2, 0);
        CHECKS.same("fold(2) with a layer", x.fold(2), LoopSpaces.BAD);
        // b is free in the first pane; then d, of which the second has the one step left
        Checks.text(x, 0, "2;a=0>0;b=0>1;c=1>0;d=0>0;:bcdaa;:dCc;e=1>1;:eecC;:aa");
        CHECKS.same("two go", x.fold(0), 2);
        CHECKS.same("three edges", x.count(0, 1), 3);
        CHECKS.same("two panes", x.count(0, 2), 2);
        int[][] rims = {{2, 2, 1, 101, -1}, {0, 0, -1}};
        for (int f = 0; f < 2; f++) {
            for (int i = 0; i < rims[f].length; i++) {
                CHECKS.same("rim(0, " + f + ", " + i + ")", x.rim(0, f, i), rims[f][i]);
            }
        }
        CHECKS.same("c is 1 now", x.told(0, 1, 0), 1);
        CHECKS.same("and of the tree", x.told(0, 1, 2), 1);
        CHECKS.same("e is 2 now", x.told(0, 2, 1), 1);
        CHECKS.same("corners stay", x.count(0, 0), 2);
        Checks.text(x, 1, "1;a=0>0;b=0>0;:aBB;:A");
        CHECKS.same("no step alone", x.fold(1), 0);
        Checks.text(x, 1, "1;a=0>0;b=0>0;:ab");
        CHECKS.same("the least", x.fold(1), 1);
        CHECKS.same("one edge is left", x.count(1, 1), 1);
        Checks.text(x, 1, "1;a=0>0;b=0>0;c=0>0;d=0>0;e=0>0;f=0>0;g=0>0;h=0>0;i=0>0"
            + ";:aI;:bA;:cB;:dC;:eD;:fE;:gF;:hG");
        CHECKS.same("all eight", x.fold(1), 8);
        CHECKS.same("one edge of nine", x.count(1, 1), 1);
        CHECKS.same("no pane", x.count(1, 2), 0);
    }

    private static void joins() {
        LoopSpaces x = new LoopSpaces();
        CHECKS.same("two points", x.join(), 1);
        Checks.text(x, 0, "2;a=1>0;b=1>1;:bb");
        Checks.text(x, 1, "3;a=0>2;b=1>2;c=0>0;:caA;:bB");
        CHECKS.same("join()", x.join(), 4);
        int[][] edges = {{1, 0}, {1, 1}, {0, 3}, {2, 3}, {0, 0}};
        for (int e = 0; e < edges.length; e++) {
            CHECKS.same("edge " + e + " from", x.told(0, e, 0), edges[e][0]);
            CHECKS.same("edge " + e + " to", x.told(0, e, 1), edges[e][1]);
        }
        CHECKS.same("five edges", x.count(0, 1), 5);
        int[][] rims = {{1, 1, -1}, {4, 2, 102, -1}, {3, 103, -1}};
        for (int f = 0; f < rims.length; f++) {
            for (int i = 0; i < rims[f].length; i++) {
                CHECKS.same("rim(0, " + f + ", " + i + ")", x.rim(0, f, i), rims[f][i]);
            }
        }
        CHECKS.same("three panes", x.count(0, 2), 3);
        CHECKS.same("space 1 stays", x.count(1, 0), 3);
        CHECKS.same("all of the part", x.count(0, 4), 4);
    }

    private static void joinsRefused() {
        LoopSpaces x = new LoopSpaces();
        x.corners(0, 5);
        x.corners(1, 4);
        CHECKS.same("eight corners", x.join(), 8);
        x.corners(1, 2);
        CHECKS.same("nine corners", x.join(), LoopSpaces.FULL);
        CHECKS.same("eight stay", x.count(0, 0), 8);
        x.corners(1, 1);
        for (int e = 0; e < 6; e++) {
            x.edge(0, 0, 0);
            x.edge(1, 0, 0);
        }
        Checks.word(x, 0, 0, "a");
        CHECKS.same("twelve edges", x.join(), 8);
        CHECKS.same("words go", x.about(0, 0), LoopSpaces.NONE);
        Checks.word(x, 0, 0, "l");
        CHECKS.same("eighteen edges", x.join(), LoopSpaces.FULL);
        CHECKS.same("words stay", x.about(0, 0), 1);
        CHECKS.same("twelve stay", x.count(0, 1), 12);
        Checks.text(x, 0, "1;a=0>0;:a;:a;:a;:a");
        Checks.text(x, 1, "1;a=0>0;:a;:a;:a;:a");
        CHECKS.same("eight panes", x.join(), 1);
        Checks.text(x, 1, "1;a=0>0;:a");
        CHECKS.same("nine panes", x.join(), LoopSpaces.FULL);
        CHECKS.same("eight stay", x.count(0, 2), 8);
        CHECKS.same("and two edges", x.count(0, 1), 2);
    }
}
